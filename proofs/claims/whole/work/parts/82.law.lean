def T_law_head (L : Nat) (sc : Nat → Int32) : List (Nat × zO) := [(18, o_iload 19 3), (19, o_aload 20 0), (20, o_slen L 21), (21, o_const 23 6), (23, o_isub 24), (24, o_icmp_gt 1732 27), (27, o_aload 28 0), (28, o_iload 29 3), (29, o_sld L sc 30), (30, o_const 32 63), (32, o_iand 33), (33, o_tsw 0 40 [212, 245, 258, 301, 344, 367, 400, 433, 476, 509, 542, 585, 638, 691, 734, 787, 830, 893, 946, 999, 1042, 1065, 1108, 1121, 1174, 1217, 1250, 1273, 1296, 1309, 1322, 1335, 1358, 1401, 1424, 1457, 1500, 1573, 1607, 1670, 1703] 1726)]
set_option maxRecDepth 20000 in
theorem t_law_head {X : zX} {L : Nat} {sc : Nat → Int32} (S : zScr X L sc) : ∀ q ∈ T_law_head L sc, zSX X k_L_law q.1 q.2 := by
  unfold T_law_head
  refine List.forall_mem_cons.mpr ⟨zSX_of (s_iload_n (j := 3) (by decide +kernel) rfl rfl), ?_⟩
  refine List.forall_mem_cons.mpr ⟨zSX_of (s_aload_n (j := 0) (by decide +kernel) rfl rfl), ?_⟩
  refine List.forall_mem_cons.mpr ⟨s_slen (pc := 20) S (by decide +kernel) rfl, ?_⟩
  refine List.forall_mem_cons.mpr ⟨zSX_of (s_bipush (by decide +kernel) (by decide) rfl), ?_⟩
  refine List.forall_mem_cons.mpr ⟨zSX_of (s_isub (by decide +kernel) rfl), ?_⟩
  refine List.forall_mem_cons.mpr ⟨zSX_of (s_icmp_gt (off := 1708) (by decide +kernel) (by decide) rfl), ?_⟩
  refine List.forall_mem_cons.mpr ⟨zSX_of (s_aload_n (j := 0) (by decide +kernel) rfl rfl), ?_⟩
  refine List.forall_mem_cons.mpr ⟨zSX_of (s_iload_n (j := 3) (by decide +kernel) rfl rfl), ?_⟩
  refine List.forall_mem_cons.mpr ⟨s_sld (pc := 29) S (by decide +kernel) rfl, ?_⟩
  refine List.forall_mem_cons.mpr ⟨zSX_of (s_bipush (by decide +kernel) (by decide) rfl), ?_⟩
  refine List.forall_mem_cons.mpr ⟨zSX_of (s_iand (by decide +kernel) rfl), ?_⟩
  refine List.forall_mem_cons.mpr ⟨zSX_of (s_tsw (dfo := 1693) (offs := #[179, 212, 225, 268, 311, 334, 367, 400, 443, 476, 509, 552, 605, 658, 701, 754, 797, 860, 913, 966, 1009, 1032, 1075, 1088, 1141, 1184, 1217, 1240, 1263, 1276, 1289, 1302, 1325, 1368, 1391, 1424, 1467, 1540, 1574, 1637, 1670]) (len := 179) (by decide +kernel) (by decide) (by decide) (by decide)), ?_⟩
  exact fun q hq => absurd hq List.not_mem_nil
def T_law_tail (L : Nat) (sc : Nat → Int32) : List (Nat × zO) := [(1726, o_iinc 1729 3 6), (1729, o_goto 18), (1732, o_const 1733 1), (1733, o_zret)]
set_option maxRecDepth 20000 in
theorem t_law_tail {X : zX} {L : Nat} {sc : Nat → Int32} (S : zScr X L sc) : ∀ q ∈ T_law_tail L sc, zSX X k_L_law q.1 q.2 := by
  unfold T_law_tail
  refine List.forall_mem_cons.mpr ⟨zSX_of (s_iinc (by decide +kernel) (by decide) rfl), ?_⟩
  refine List.forall_mem_cons.mpr ⟨zSX_of (s_goto (off := (-1711)) (by decide +kernel) (by decide)), ?_⟩
  refine List.forall_mem_cons.mpr ⟨zSX_of (s_iconst (by decide +kernel) rfl), ?_⟩
  refine List.forall_mem_cons.mpr ⟨zSX_of (s_zret rfl (by decide +kernel)), ?_⟩
  exact fun q hq => absurd hq List.not_mem_nil
def T_law_0 (L : Nat) (sc : Nat → Int32) : List (Nat × zO) := [(212, o_aload 213 1), (213, o_aload 214 0), (214, o_iload 215 3), (215, o_const 216 1), (216, o_iadd 217), (217, o_sld L sc 218), (218, o_aload 219 0), (219, o_iload 220 3), (220, o_const 221 2), (221, o_iadd 222), (222, o_sld L sc 223), (223, o_callv 2 8 k_X8_feed 226), (226, o_aload 227 2), (227, o_aload 228 0), (228, o_iload 229 3), (229, o_const 230 1), (230, o_iadd 231), (231, o_sld L sc 232), (232, o_aload 233 0), (233, o_iload 234 3), (234, o_const 235 2), (235, o_iadd 236), (236, o_sld L sc 237), (237, o_callv 2 9 k_X9_feed 240), (240, o_same 1726), (243, o_const 244 0), (244, o_zret)]
set_option maxRecDepth 20000 in
theorem t_law_0 {X : zX} {L : Nat} {sc : Nat → Int32} (S : zScr X L sc) : ∀ q ∈ T_law_0 L sc, zSX X k_L_law q.1 q.2 := by
  unfold T_law_0
  refine List.forall_mem_cons.mpr ⟨zSX_of (s_aload_n (j := 1) (by decide +kernel) rfl rfl), ?_⟩
  refine List.forall_mem_cons.mpr ⟨zSX_of (s_aload_n (j := 0) (by decide +kernel) rfl rfl), ?_⟩
  refine List.forall_mem_cons.mpr ⟨zSX_of (s_iload_n (j := 3) (by decide +kernel) rfl rfl), ?_⟩
  refine List.forall_mem_cons.mpr ⟨zSX_of (s_iconst (by decide +kernel) rfl), ?_⟩
  refine List.forall_mem_cons.mpr ⟨zSX_of (s_iadd (by decide +kernel) rfl), ?_⟩
  refine List.forall_mem_cons.mpr ⟨s_sld (pc := 217) S (by decide +kernel) rfl, ?_⟩
  refine List.forall_mem_cons.mpr ⟨zSX_of (s_aload_n (j := 0) (by decide +kernel) rfl rfl), ?_⟩
  refine List.forall_mem_cons.mpr ⟨zSX_of (s_iload_n (j := 3) (by decide +kernel) rfl rfl), ?_⟩
  refine List.forall_mem_cons.mpr ⟨zSX_of (s_iconst (by decide +kernel) rfl), ?_⟩
  refine List.forall_mem_cons.mpr ⟨zSX_of (s_iadd (by decide +kernel) rfl), ?_⟩
  refine List.forall_mem_cons.mpr ⟨s_sld (pc := 222) S (by decide +kernel) rfl, ?_⟩
  refine List.forall_mem_cons.mpr ⟨zSX_of (s_callv (idx := 13) (k' := k_X8_feed) (T := TX8) (N := 10) rfl q2_103 q2_100 q2_101 q2_102 q1_1 de_X8_feed (by decide) (by decide +kernel) rfl), ?_⟩
  refine List.forall_mem_cons.mpr ⟨zSX_of (s_aload_n (j := 2) (by decide +kernel) rfl rfl), ?_⟩
  refine List.forall_mem_cons.mpr ⟨zSX_of (s_aload_n (j := 0) (by decide +kernel) rfl rfl), ?_⟩
  refine List.forall_mem_cons.mpr ⟨zSX_of (s_iload_n (j := 3) (by decide +kernel) rfl rfl), ?_⟩
  refine List.forall_mem_cons.mpr ⟨zSX_of (s_iconst (by decide +kernel) rfl), ?_⟩
  refine List.forall_mem_cons.mpr ⟨zSX_of (s_iadd (by decide +kernel) rfl), ?_⟩
  refine List.forall_mem_cons.mpr ⟨s_sld (pc := 231) S (by decide +kernel) rfl, ?_⟩
  refine List.forall_mem_cons.mpr ⟨zSX_of (s_aload_n (j := 0) (by decide +kernel) rfl rfl), ?_⟩
  refine List.forall_mem_cons.mpr ⟨zSX_of (s_iload_n (j := 3) (by decide +kernel) rfl rfl), ?_⟩
  refine List.forall_mem_cons.mpr ⟨zSX_of (s_iconst (by decide +kernel) rfl), ?_⟩
  refine List.forall_mem_cons.mpr ⟨zSX_of (s_iadd (by decide +kernel) rfl), ?_⟩
  refine List.forall_mem_cons.mpr ⟨s_sld (pc := 236) S (by decide +kernel) rfl, ?_⟩
  refine List.forall_mem_cons.mpr ⟨zSX_of (s_callv (idx := 17) (k' := k_X9_feed) (T := TX9) (N := 54) rfl q5_46 q5_43 q5_44 q5_45 q1_10 de_X9_feed (by decide) (by decide +kernel) rfl), ?_⟩
  refine List.forall_mem_cons.mpr ⟨s_same (pc := 240) (off := 1486) (by decide +kernel) (by decide), ?_⟩
  refine List.forall_mem_cons.mpr ⟨zSX_of (s_iconst (by decide +kernel) rfl), ?_⟩
  refine List.forall_mem_cons.mpr ⟨zSX_of (s_zret rfl (by decide +kernel)), ?_⟩
  exact fun q hq => absurd hq List.not_mem_nil
set_option maxHeartbeats 2000000 in
/-- 0: feed -/
theorem law_0 {X : zX} {L : Nat} {sc : Nat → Int32} (S : zScr X L sc) (C : zCx X 1000 k_L_law) (E : zEx X k_L_law (fun o _ => o = some (sI 1))) {i : Int} (i0 : 0 ≤ i) (i6 : i + 6 ≤ L) (IH : ∀ h, Inv2 h → zJ X 1726 [some (sR 99), some (sR 0), some (sR 52), some (sI i)] [] h) (h : zH) (hI : Inv2 h) : zJ X 212 [some (sR 99), some (sR 0), some (sR 52), some (sI i)] [] h := by
  have hL := S.2.2.2
  refine zrunX (t_law_0 S) C E [1726] 60 _ _ _ _ ?_
  refine And.intro (by omega) (And.intro (by omega) (And.intro (by omega) (And.intro (by omega) (?_))))
  refine zcall_i (d' := 999) (by omega) ((pr_feed (d := 999) (by omega) (i32_in _) (i32_in _)) h hI) ?_
  rintro _ g ⟨r, rfl, hm⟩
  refine And.intro (by omega) (And.intro (by omega) (And.intro (by omega) (And.intro (by omega) (?_))))
  refine zcall_i (d' := 999) (by omega) hm ?_
  rintro _ g' ⟨rfl, hI2⟩
  exact And.intro rfl (IH g' hI2)
def T_law_1 (L : Nat) (sc : Nat → Int32) : List (Nat × zO) := [(245, o_aload 246 1), (246, o_callv 0 8 k_X8_tide 249), (249, o_aload 250 2), (250, o_callv 0 9 k_X9_tide 253), (253, o_same 1726), (256, o_const 257 0), (257, o_zret)]
set_option maxRecDepth 20000 in
theorem t_law_1 {X : zX} {L : Nat} {sc : Nat → Int32} (S : zScr X L sc) : ∀ q ∈ T_law_1 L sc, zSX X k_L_law q.1 q.2 := by
  unfold T_law_1
  refine List.forall_mem_cons.mpr ⟨zSX_of (s_aload_n (j := 1) (by decide +kernel) rfl rfl), ?_⟩
  refine List.forall_mem_cons.mpr ⟨zSX_of (s_callv (idx := 18) (k' := k_X8_tide) (T := TX8) (N := 10) rfl q2_111 q2_108 q2_109 q2_110 q1_1 de_X8_tide (by decide) (by decide +kernel) rfl), ?_⟩
  refine List.forall_mem_cons.mpr ⟨zSX_of (s_aload_n (j := 2) (by decide +kernel) rfl rfl), ?_⟩
  refine List.forall_mem_cons.mpr ⟨zSX_of (s_callv (idx := 22) (k' := k_X9_tide) (T := TX9) (N := 54) rfl q5_54 q5_51 q5_52 q5_53 q1_10 de_X9_tide (by decide) (by decide +kernel) rfl), ?_⟩
  refine List.forall_mem_cons.mpr ⟨s_same (pc := 253) (off := 1473) (by decide +kernel) (by decide), ?_⟩
  refine List.forall_mem_cons.mpr ⟨zSX_of (s_iconst (by decide +kernel) rfl), ?_⟩
  refine List.forall_mem_cons.mpr ⟨zSX_of (s_zret rfl (by decide +kernel)), ?_⟩
  exact fun q hq => absurd hq List.not_mem_nil
set_option maxHeartbeats 2000000 in
/-- 1: tide -/
theorem law_1 {X : zX} {L : Nat} {sc : Nat → Int32} (S : zScr X L sc) (C : zCx X 1000 k_L_law) (E : zEx X k_L_law (fun o _ => o = some (sI 1))) {i : Int} (i0 : 0 ≤ i) (i6 : i + 6 ≤ L) (IH : ∀ h, Inv2 h → zJ X 1726 [some (sR 99), some (sR 0), some (sR 52), some (sI i)] [] h) (h : zH) (hI : Inv2 h) : zJ X 245 [some (sR 99), some (sR 0), some (sR 52), some (sI i)] [] h := by
  have hL := S.2.2.2
  refine zrunX (t_law_1 S) C E [1726] 60 _ _ _ _ ?_
  refine zcall_i (d' := 999) (by omega) ((pr_tide (d := 999) (by omega)) h hI) ?_
  rintro _ g ⟨r, rfl, hm⟩
  refine zcall_i (d' := 999) (by omega) hm ?_
  rintro _ g' ⟨rfl, hI2⟩
  exact And.intro rfl (IH g' hI2)
def T_law_2 (L : Nat) (sc : Nat → Int32) : List (Nat × zO) := [(258, o_aload 259 1), (259, o_aload 260 0), (260, o_iload 261 3), (261, o_const 262 1), (262, o_iadd 263), (263, o_sld L sc 264), (264, o_aload 265 0), (265, o_iload 266 3), (266, o_const 267 2), (267, o_iadd 268), (268, o_sld L sc 269), (269, o_aload 270 0), (270, o_iload 271 3), (271, o_const 272 3), (272, o_iadd 273), (273, o_sld L sc 274), (274, o_callv 3 8 k_X8_wind 277), (277, o_aload 278 2), (278, o_aload 279 0), (279, o_iload 280 3), (280, o_const 281 1), (281, o_iadd 282), (282, o_sld L sc 283), (283, o_aload 284 0), (284, o_iload 285 3), (285, o_const 286 2), (286, o_iadd 287), (287, o_sld L sc 288), (288, o_aload 289 0), (289, o_iload 290 3), (290, o_const 291 3), (291, o_iadd 292), (292, o_sld L sc 293), (293, o_callv 3 9 k_X9_wind 296), (296, o_same 1726), (299, o_const 300 0), (300, o_zret)]
set_option maxRecDepth 20000 in
theorem t_law_2 {X : zX} {L : Nat} {sc : Nat → Int32} (S : zScr X L sc) : ∀ q ∈ T_law_2 L sc, zSX X k_L_law q.1 q.2 := by
  unfold T_law_2
  refine List.forall_mem_cons.mpr ⟨zSX_of (s_aload_n (j := 1) (by decide +kernel) rfl rfl), ?_⟩
  refine List.forall_mem_cons.mpr ⟨zSX_of (s_aload_n (j := 0) (by decide +kernel) rfl rfl), ?_⟩
  refine List.forall_mem_cons.mpr ⟨zSX_of (s_iload_n (j := 3) (by decide +kernel) rfl rfl), ?_⟩
  refine List.forall_mem_cons.mpr ⟨zSX_of (s_iconst (by decide +kernel) rfl), ?_⟩
  refine List.forall_mem_cons.mpr ⟨zSX_of (s_iadd (by decide +kernel) rfl), ?_⟩
  refine List.forall_mem_cons.mpr ⟨s_sld (pc := 263) S (by decide +kernel) rfl, ?_⟩
  refine List.forall_mem_cons.mpr ⟨zSX_of (s_aload_n (j := 0) (by decide +kernel) rfl rfl), ?_⟩
  refine List.forall_mem_cons.mpr ⟨zSX_of (s_iload_n (j := 3) (by decide +kernel) rfl rfl), ?_⟩
  refine List.forall_mem_cons.mpr ⟨zSX_of (s_iconst (by decide +kernel) rfl), ?_⟩
  refine List.forall_mem_cons.mpr ⟨zSX_of (s_iadd (by decide +kernel) rfl), ?_⟩
  refine List.forall_mem_cons.mpr ⟨s_sld (pc := 268) S (by decide +kernel) rfl, ?_⟩
  refine List.forall_mem_cons.mpr ⟨zSX_of (s_aload_n (j := 0) (by decide +kernel) rfl rfl), ?_⟩
  refine List.forall_mem_cons.mpr ⟨zSX_of (s_iload_n (j := 3) (by decide +kernel) rfl rfl), ?_⟩
  refine List.forall_mem_cons.mpr ⟨zSX_of (s_iconst (by decide +kernel) rfl), ?_⟩
  refine List.forall_mem_cons.mpr ⟨zSX_of (s_iadd (by decide +kernel) rfl), ?_⟩
  refine List.forall_mem_cons.mpr ⟨s_sld (pc := 273) S (by decide +kernel) rfl, ?_⟩
  refine List.forall_mem_cons.mpr ⟨zSX_of (s_callv (idx := 23) (k' := k_X8_wind) (T := TX8) (N := 10) rfl q2_142 q2_139 q2_140 q2_141 q1_1 de_X8_wind (by decide) (by decide +kernel) rfl), ?_⟩
  refine List.forall_mem_cons.mpr ⟨zSX_of (s_aload_n (j := 2) (by decide +kernel) rfl rfl), ?_⟩
  refine List.forall_mem_cons.mpr ⟨zSX_of (s_aload_n (j := 0) (by decide +kernel) rfl rfl), ?_⟩
  refine List.forall_mem_cons.mpr ⟨zSX_of (s_iload_n (j := 3) (by decide +kernel) rfl rfl), ?_⟩
  refine List.forall_mem_cons.mpr ⟨zSX_of (s_iconst (by decide +kernel) rfl), ?_⟩
  refine List.forall_mem_cons.mpr ⟨zSX_of (s_iadd (by decide +kernel) rfl), ?_⟩
  refine List.forall_mem_cons.mpr ⟨s_sld (pc := 282) S (by decide +kernel) rfl, ?_⟩
  refine List.forall_mem_cons.mpr ⟨zSX_of (s_aload_n (j := 0) (by decide +kernel) rfl rfl), ?_⟩
  refine List.forall_mem_cons.mpr ⟨zSX_of (s_iload_n (j := 3) (by decide +kernel) rfl rfl), ?_⟩
  refine List.forall_mem_cons.mpr ⟨zSX_of (s_iconst (by decide +kernel) rfl), ?_⟩
  refine List.forall_mem_cons.mpr ⟨zSX_of (s_iadd (by decide +kernel) rfl), ?_⟩
  refine List.forall_mem_cons.mpr ⟨s_sld (pc := 287) S (by decide +kernel) rfl, ?_⟩
  refine List.forall_mem_cons.mpr ⟨zSX_of (s_aload_n (j := 0) (by decide +kernel) rfl rfl), ?_⟩
  refine List.forall_mem_cons.mpr ⟨zSX_of (s_iload_n (j := 3) (by decide +kernel) rfl rfl), ?_⟩
  refine List.forall_mem_cons.mpr ⟨zSX_of (s_iconst (by decide +kernel) rfl), ?_⟩
  refine List.forall_mem_cons.mpr ⟨zSX_of (s_iadd (by decide +kernel) rfl), ?_⟩
  refine List.forall_mem_cons.mpr ⟨s_sld (pc := 292) S (by decide +kernel) rfl, ?_⟩
  refine List.forall_mem_cons.mpr ⟨zSX_of (s_callv (idx := 27) (k' := k_X9_wind) (T := TX9) (N := 54) rfl q5_70 q5_67 q5_68 q5_69 q1_10 de_X9_wind (by decide) (by decide +kernel) rfl), ?_⟩
  refine List.forall_mem_cons.mpr ⟨s_same (pc := 296) (off := 1430) (by decide +kernel) (by decide), ?_⟩
  refine List.forall_mem_cons.mpr ⟨zSX_of (s_iconst (by decide +kernel) rfl), ?_⟩
  refine List.forall_mem_cons.mpr ⟨zSX_of (s_zret rfl (by decide +kernel)), ?_⟩
  exact fun q hq => absurd hq List.not_mem_nil
set_option maxHeartbeats 2000000 in
/-- 2: wind -/
theorem law_2 {X : zX} {L : Nat} {sc : Nat → Int32} (S : zScr X L sc) (C : zCx X 1000 k_L_law) (E : zEx X k_L_law (fun o _ => o = some (sI 1))) {i : Int} (i0 : 0 ≤ i) (i6 : i + 6 ≤ L) (IH : ∀ h, Inv2 h → zJ X 1726 [some (sR 99), some (sR 0), some (sR 52), some (sI i)] [] h) (h : zH) (hI : Inv2 h) : zJ X 258 [some (sR 99), some (sR 0), some (sR 52), some (sI i)] [] h := by
  have hL := S.2.2.2
  refine zrunX (t_law_2 S) C E [1726] 60 _ _ _ _ ?_
  refine And.intro (by omega) (And.intro (by omega) (And.intro (by omega) (And.intro (by omega) (And.intro (by omega) (And.intro (by omega) (?_))))))
  refine zcall_i (d' := 999) (by omega) ((pr_wind (d := 999) (by omega) (i32_in _) (i32_in _) (i32_in _)) h hI) ?_
  rintro _ g ⟨r, rfl, hm⟩
  refine And.intro (by omega) (And.intro (by omega) (And.intro (by omega) (And.intro (by omega) (And.intro (by omega) (And.intro (by omega) (?_))))))
  refine zcall_i (d' := 999) (by omega) hm ?_
  rintro _ g' ⟨rfl, hI2⟩
  exact And.intro rfl (IH g' hI2)
def T_law_3 (L : Nat) (sc : Nat → Int32) : List (Nat × zO) := [(301, o_aload 302 1), (302, o_aload 303 0), (303, o_iload 304 3), (304, o_const 305 1), (305, o_iadd 306), (306, o_sld L sc 307), (307, o_aload 308 0), (308, o_iload 309 3), (309, o_const 310 2), (310, o_iadd 311), (311, o_sld L sc 312), (312, o_aload 313 0), (313, o_iload 314 3), (314, o_const 315 3), (315, o_iadd 316), (316, o_sld L sc 317), (317, o_callv 3 8 k_X8_sea 320), (320, o_aload 321 2), (321, o_aload 322 0), (322, o_iload 323 3), (323, o_const 324 1), (324, o_iadd 325), (325, o_sld L sc 326), (326, o_aload 327 0), (327, o_iload 328 3), (328, o_const 329 2), (329, o_iadd 330), (330, o_sld L sc 331), (331, o_aload 332 0), (332, o_iload 333 3), (333, o_const 334 3), (334, o_iadd 335), (335, o_sld L sc 336), (336, o_callv 3 9 k_X9_sea 339), (339, o_same 1726), (342, o_const 343 0), (343, o_zret)]
set_option maxRecDepth 20000 in
theorem t_law_3 {X : zX} {L : Nat} {sc : Nat → Int32} (S : zScr X L sc) : ∀ q ∈ T_law_3 L sc, zSX X k_L_law q.1 q.2 := by
  unfold T_law_3
  refine List.forall_mem_cons.mpr ⟨zSX_of (s_aload_n (j := 1) (by decide +kernel) rfl rfl), ?_⟩
  refine List.forall_mem_cons.mpr ⟨zSX_of (s_aload_n (j := 0) (by decide +kernel) rfl rfl), ?_⟩
  refine List.forall_mem_cons.mpr ⟨zSX_of (s_iload_n (j := 3) (by decide +kernel) rfl rfl), ?_⟩
  refine List.forall_mem_cons.mpr ⟨zSX_of (s_iconst (by decide +kernel) rfl), ?_⟩
  refine List.forall_mem_cons.mpr ⟨zSX_of (s_iadd (by decide +kernel) rfl), ?_⟩
  refine List.forall_mem_cons.mpr ⟨s_sld (pc := 306) S (by decide +kernel) rfl, ?_⟩
  refine List.forall_mem_cons.mpr ⟨zSX_of (s_aload_n (j := 0) (by decide +kernel) rfl rfl), ?_⟩
  refine List.forall_mem_cons.mpr ⟨zSX_of (s_iload_n (j := 3) (by decide +kernel) rfl rfl), ?_⟩
  refine List.forall_mem_cons.mpr ⟨zSX_of (s_iconst (by decide +kernel) rfl), ?_⟩
  refine List.forall_mem_cons.mpr ⟨zSX_of (s_iadd (by decide +kernel) rfl), ?_⟩
  refine List.forall_mem_cons.mpr ⟨s_sld (pc := 311) S (by decide +kernel) rfl, ?_⟩
  refine List.forall_mem_cons.mpr ⟨zSX_of (s_aload_n (j := 0) (by decide +kernel) rfl rfl), ?_⟩
  refine List.forall_mem_cons.mpr ⟨zSX_of (s_iload_n (j := 3) (by decide +kernel) rfl rfl), ?_⟩
  refine List.forall_mem_cons.mpr ⟨zSX_of (s_iconst (by decide +kernel) rfl), ?_⟩
  refine List.forall_mem_cons.mpr ⟨zSX_of (s_iadd (by decide +kernel) rfl), ?_⟩
  refine List.forall_mem_cons.mpr ⟨s_sld (pc := 316) S (by decide +kernel) rfl, ?_⟩
  refine List.forall_mem_cons.mpr ⟨zSX_of (s_callv (idx := 28) (k' := k_X8_sea) (T := TX8) (N := 10) rfl q2_153 q2_150 q2_151 q2_152 q1_1 de_X8_sea (by decide) (by decide +kernel) rfl), ?_⟩
  refine List.forall_mem_cons.mpr ⟨zSX_of (s_aload_n (j := 2) (by decide +kernel) rfl rfl), ?_⟩
  refine List.forall_mem_cons.mpr ⟨zSX_of (s_aload_n (j := 0) (by decide +kernel) rfl rfl), ?_⟩
  refine List.forall_mem_cons.mpr ⟨zSX_of (s_iload_n (j := 3) (by decide +kernel) rfl rfl), ?_⟩
  refine List.forall_mem_cons.mpr ⟨zSX_of (s_iconst (by decide +kernel) rfl), ?_⟩
  refine List.forall_mem_cons.mpr ⟨zSX_of (s_iadd (by decide +kernel) rfl), ?_⟩
  refine List.forall_mem_cons.mpr ⟨s_sld (pc := 325) S (by decide +kernel) rfl, ?_⟩
  refine List.forall_mem_cons.mpr ⟨zSX_of (s_aload_n (j := 0) (by decide +kernel) rfl rfl), ?_⟩
  refine List.forall_mem_cons.mpr ⟨zSX_of (s_iload_n (j := 3) (by decide +kernel) rfl rfl), ?_⟩
  refine List.forall_mem_cons.mpr ⟨zSX_of (s_iconst (by decide +kernel) rfl), ?_⟩
  refine List.forall_mem_cons.mpr ⟨zSX_of (s_iadd (by decide +kernel) rfl), ?_⟩
  refine List.forall_mem_cons.mpr ⟨s_sld (pc := 330) S (by decide +kernel) rfl, ?_⟩
  refine List.forall_mem_cons.mpr ⟨zSX_of (s_aload_n (j := 0) (by decide +kernel) rfl rfl), ?_⟩
  refine List.forall_mem_cons.mpr ⟨zSX_of (s_iload_n (j := 3) (by decide +kernel) rfl rfl), ?_⟩
  refine List.forall_mem_cons.mpr ⟨zSX_of (s_iconst (by decide +kernel) rfl), ?_⟩
  refine List.forall_mem_cons.mpr ⟨zSX_of (s_iadd (by decide +kernel) rfl), ?_⟩
  refine List.forall_mem_cons.mpr ⟨s_sld (pc := 335) S (by decide +kernel) rfl, ?_⟩
  refine List.forall_mem_cons.mpr ⟨zSX_of (s_callv (idx := 31) (k' := k_X9_sea) (T := TX9) (N := 54) rfl q5_78 q5_75 q5_76 q5_77 q1_10 de_X9_sea (by decide) (by decide +kernel) rfl), ?_⟩
  refine List.forall_mem_cons.mpr ⟨s_same (pc := 339) (off := 1387) (by decide +kernel) (by decide), ?_⟩
  refine List.forall_mem_cons.mpr ⟨zSX_of (s_iconst (by decide +kernel) rfl), ?_⟩
  refine List.forall_mem_cons.mpr ⟨zSX_of (s_zret rfl (by decide +kernel)), ?_⟩
  exact fun q hq => absurd hq List.not_mem_nil
set_option maxHeartbeats 2000000 in
/-- 3: sea -/
theorem law_3 {X : zX} {L : Nat} {sc : Nat → Int32} (S : zScr X L sc) (C : zCx X 1000 k_L_law) (E : zEx X k_L_law (fun o _ => o = some (sI 1))) {i : Int} (i0 : 0 ≤ i) (i6 : i + 6 ≤ L) (IH : ∀ h, Inv2 h → zJ X 1726 [some (sR 99), some (sR 0), some (sR 52), some (sI i)] [] h) (h : zH) (hI : Inv2 h) : zJ X 301 [some (sR 99), some (sR 0), some (sR 52), some (sI i)] [] h := by
  have hL := S.2.2.2
  refine zrunX (t_law_3 S) C E [1726] 60 _ _ _ _ ?_
  refine And.intro (by omega) (And.intro (by omega) (And.intro (by omega) (And.intro (by omega) (And.intro (by omega) (And.intro (by omega) (?_))))))
  refine zcall_i (d' := 999) (by omega) ((Pair2_of (pr_sea (d := 999) (by omega) (i32_in _) (i32_in _) (i32_in _))) h hI) ?_
  rintro _ g ⟨r, rfl, hm⟩
  refine And.intro (by omega) (And.intro (by omega) (And.intro (by omega) (And.intro (by omega) (And.intro (by omega) (And.intro (by omega) (?_))))))
  refine zcall_i (d' := 999) (by omega) hm ?_
  rintro _ g' ⟨rfl, hI2⟩
  exact And.intro rfl (IH g' hI2)
def T_law_4 (L : Nat) (sc : Nat → Int32) : List (Nat × zO) := [(344, o_aload 345 1), (345, o_aload 346 0), (346, o_iload 347 3), (347, o_const 348 1), (348, o_iadd 349), (349, o_sld L sc 350), (350, o_callv 1 8 k_X8_place 353), (353, o_aload 354 2), (354, o_aload 355 0), (355, o_iload 356 3), (356, o_const 357 1), (357, o_iadd 358), (358, o_sld L sc 359), (359, o_callv 1 9 k_X9_place 362), (362, o_same 1726), (365, o_const 366 0), (366, o_zret)]
set_option maxRecDepth 20000 in
theorem t_law_4 {X : zX} {L : Nat} {sc : Nat → Int32} (S : zScr X L sc) : ∀ q ∈ T_law_4 L sc, zSX X k_L_law q.1 q.2 := by
  unfold T_law_4
  refine List.forall_mem_cons.mpr ⟨zSX_of (s_aload_n (j := 1) (by decide +kernel) rfl rfl), ?_⟩
  refine List.forall_mem_cons.mpr ⟨zSX_of (s_aload_n (j := 0) (by decide +kernel) rfl rfl), ?_⟩
  refine List.forall_mem_cons.mpr ⟨zSX_of (s_iload_n (j := 3) (by decide +kernel) rfl rfl), ?_⟩
  refine List.forall_mem_cons.mpr ⟨zSX_of (s_iconst (by decide +kernel) rfl), ?_⟩
  refine List.forall_mem_cons.mpr ⟨zSX_of (s_iadd (by decide +kernel) rfl), ?_⟩
  refine List.forall_mem_cons.mpr ⟨s_sld (pc := 349) S (by decide +kernel) rfl, ?_⟩
  refine List.forall_mem_cons.mpr ⟨zSX_of (s_callv (idx := 32) (k' := k_X8_place) (T := TX8) (N := 10) rfl q2_175 q2_172 q2_173 q2_174 q1_1 de_X8_place (by decide) (by decide +kernel) rfl), ?_⟩
  refine List.forall_mem_cons.mpr ⟨zSX_of (s_aload_n (j := 2) (by decide +kernel) rfl rfl), ?_⟩
  refine List.forall_mem_cons.mpr ⟨zSX_of (s_aload_n (j := 0) (by decide +kernel) rfl rfl), ?_⟩
  refine List.forall_mem_cons.mpr ⟨zSX_of (s_iload_n (j := 3) (by decide +kernel) rfl rfl), ?_⟩
  refine List.forall_mem_cons.mpr ⟨zSX_of (s_iconst (by decide +kernel) rfl), ?_⟩
  refine List.forall_mem_cons.mpr ⟨zSX_of (s_iadd (by decide +kernel) rfl), ?_⟩
  refine List.forall_mem_cons.mpr ⟨s_sld (pc := 358) S (by decide +kernel) rfl, ?_⟩
  refine List.forall_mem_cons.mpr ⟨zSX_of (s_callv (idx := 36) (k' := k_X9_place) (T := TX9) (N := 54) rfl q5_103 q5_100 q5_101 q5_102 q1_10 de_X9_place (by decide) (by decide +kernel) rfl), ?_⟩
  refine List.forall_mem_cons.mpr ⟨s_same (pc := 362) (off := 1364) (by decide +kernel) (by decide), ?_⟩
  refine List.forall_mem_cons.mpr ⟨zSX_of (s_iconst (by decide +kernel) rfl), ?_⟩
  refine List.forall_mem_cons.mpr ⟨zSX_of (s_zret rfl (by decide +kernel)), ?_⟩
  exact fun q hq => absurd hq List.not_mem_nil
set_option maxHeartbeats 2000000 in
/-- 4: place -/
theorem law_4 {X : zX} {L : Nat} {sc : Nat → Int32} (S : zScr X L sc) (C : zCx X 1000 k_L_law) (E : zEx X k_L_law (fun o _ => o = some (sI 1))) {i : Int} (i0 : 0 ≤ i) (i6 : i + 6 ≤ L) (IH : ∀ h, Inv2 h → zJ X 1726 [some (sR 99), some (sR 0), some (sR 52), some (sI i)] [] h) (h : zH) (hI : Inv2 h) : zJ X 344 [some (sR 99), some (sR 0), some (sR 52), some (sI i)] [] h := by
  have hL := S.2.2.2
  refine zrunX (t_law_4 S) C E [1726] 60 _ _ _ _ ?_
  refine And.intro (by omega) (And.intro (by omega) (?_))
  refine zcall_i (d' := 999) (by omega) ((pr_place (d := 999) (by omega) (i32_in _)) h hI) ?_
  rintro _ g ⟨r, rfl, hm⟩
  refine And.intro (by omega) (And.intro (by omega) (?_))
  refine zcall_i (d' := 999) (by omega) hm ?_
  rintro _ g' ⟨rfl, hI2⟩
  exact And.intro rfl (IH g' hI2)
def T_law_5 (L : Nat) (sc : Nat → Int32) : List (Nat × zO) := [(367, o_aload 368 1), (368, o_aload 369 0), (369, o_iload 370 3), (370, o_const 371 1), (371, o_iadd 372), (372, o_sld L sc 373), (373, o_aload 374 0), (374, o_iload 375 3), (375, o_const 376 2), (376, o_iadd 377), (377, o_sld L sc 378), (378, o_callv 2 8 k_X8_way 381), (381, o_aload 382 2), (382, o_aload 383 0), (383, o_iload 384 3), (384, o_const 385 1), (385, o_iadd 386), (386, o_sld L sc 387), (387, o_aload 388 0), (388, o_iload 389 3), (389, o_const 390 2), (390, o_iadd 391), (391, o_sld L sc 392), (392, o_callv 2 9 k_X9_way 395), (395, o_same 1726), (398, o_const 399 0), (399, o_zret)]
set_option maxRecDepth 20000 in
theorem t_law_5 {X : zX} {L : Nat} {sc : Nat → Int32} (S : zScr X L sc) : ∀ q ∈ T_law_5 L sc, zSX X k_L_law q.1 q.2 := by
  unfold T_law_5
  refine List.forall_mem_cons.mpr ⟨zSX_of (s_aload_n (j := 1) (by decide +kernel) rfl rfl), ?_⟩
  refine List.forall_mem_cons.mpr ⟨zSX_of (s_aload_n (j := 0) (by decide +kernel) rfl rfl), ?_⟩
  refine List.forall_mem_cons.mpr ⟨zSX_of (s_iload_n (j := 3) (by decide +kernel) rfl rfl), ?_⟩
  refine List.forall_mem_cons.mpr ⟨zSX_of (s_iconst (by decide +kernel) rfl), ?_⟩
  refine List.forall_mem_cons.mpr ⟨zSX_of (s_iadd (by decide +kernel) rfl), ?_⟩
  refine List.forall_mem_cons.mpr ⟨s_sld (pc := 372) S (by decide +kernel) rfl, ?_⟩
  refine List.forall_mem_cons.mpr ⟨zSX_of (s_aload_n (j := 0) (by decide +kernel) rfl rfl), ?_⟩
  refine List.forall_mem_cons.mpr ⟨zSX_of (s_iload_n (j := 3) (by decide +kernel) rfl rfl), ?_⟩
  refine List.forall_mem_cons.mpr ⟨zSX_of (s_iconst (by decide +kernel) rfl), ?_⟩
  refine List.forall_mem_cons.mpr ⟨zSX_of (s_iadd (by decide +kernel) rfl), ?_⟩
  refine List.forall_mem_cons.mpr ⟨s_sld (pc := 377) S (by decide +kernel) rfl, ?_⟩
  refine List.forall_mem_cons.mpr ⟨zSX_of (s_callv (idx := 37) (k' := k_X8_way) (T := TX8) (N := 10) rfl q2_179 q2_176 q2_177 q2_178 q1_1 de_X8_way (by decide) (by decide +kernel) rfl), ?_⟩
  refine List.forall_mem_cons.mpr ⟨zSX_of (s_aload_n (j := 2) (by decide +kernel) rfl rfl), ?_⟩
  refine List.forall_mem_cons.mpr ⟨zSX_of (s_aload_n (j := 0) (by decide +kernel) rfl rfl), ?_⟩
  refine List.forall_mem_cons.mpr ⟨zSX_of (s_iload_n (j := 3) (by decide +kernel) rfl rfl), ?_⟩
  refine List.forall_mem_cons.mpr ⟨zSX_of (s_iconst (by decide +kernel) rfl), ?_⟩
  refine List.forall_mem_cons.mpr ⟨zSX_of (s_iadd (by decide +kernel) rfl), ?_⟩
  refine List.forall_mem_cons.mpr ⟨s_sld (pc := 386) S (by decide +kernel) rfl, ?_⟩
  refine List.forall_mem_cons.mpr ⟨zSX_of (s_aload_n (j := 0) (by decide +kernel) rfl rfl), ?_⟩
  refine List.forall_mem_cons.mpr ⟨zSX_of (s_iload_n (j := 3) (by decide +kernel) rfl rfl), ?_⟩
  refine List.forall_mem_cons.mpr ⟨zSX_of (s_iconst (by decide +kernel) rfl), ?_⟩
  refine List.forall_mem_cons.mpr ⟨zSX_of (s_iadd (by decide +kernel) rfl), ?_⟩
  refine List.forall_mem_cons.mpr ⟨s_sld (pc := 391) S (by decide +kernel) rfl, ?_⟩
  refine List.forall_mem_cons.mpr ⟨zSX_of (s_callv (idx := 40) (k' := k_X9_way) (T := TX9) (N := 54) rfl q5_108 q5_105 q5_106 q5_107 q1_10 de_X9_way (by decide) (by decide +kernel) rfl), ?_⟩
  refine List.forall_mem_cons.mpr ⟨s_same (pc := 395) (off := 1331) (by decide +kernel) (by decide), ?_⟩
  refine List.forall_mem_cons.mpr ⟨zSX_of (s_iconst (by decide +kernel) rfl), ?_⟩
  refine List.forall_mem_cons.mpr ⟨zSX_of (s_zret rfl (by decide +kernel)), ?_⟩
  exact fun q hq => absurd hq List.not_mem_nil
set_option maxHeartbeats 2000000 in
/-- 5: way -/
theorem law_5 {X : zX} {L : Nat} {sc : Nat → Int32} (S : zScr X L sc) (C : zCx X 1000 k_L_law) (E : zEx X k_L_law (fun o _ => o = some (sI 1))) {i : Int} (i0 : 0 ≤ i) (i6 : i + 6 ≤ L) (IH : ∀ h, Inv2 h → zJ X 1726 [some (sR 99), some (sR 0), some (sR 52), some (sI i)] [] h) (h : zH) (hI : Inv2 h) : zJ X 367 [some (sR 99), some (sR 0), some (sR 52), some (sI i)] [] h := by
  have hL := S.2.2.2
  refine zrunX (t_law_5 S) C E [1726] 60 _ _ _ _ ?_
  refine And.intro (by omega) (And.intro (by omega) (And.intro (by omega) (And.intro (by omega) (?_))))
  refine zcall_i (d' := 999) (by omega) ((pr_way (d := 999) (by omega) (i32_in _) (i32_in _)) h hI) ?_
  rintro _ g ⟨r, rfl, hm⟩
  refine And.intro (by omega) (And.intro (by omega) (And.intro (by omega) (And.intro (by omega) (?_))))
  refine zcall_i (d' := 999) (by omega) hm ?_
  rintro _ g' ⟨rfl, hI2⟩
  exact And.intro rfl (IH g' hI2)
def T_law_6 (L : Nat) (sc : Nat → Int32) : List (Nat × zO) := [(400, o_aload 401 1), (401, o_aload 402 0), (402, o_iload 403 3), (403, o_const 404 1), (404, o_iadd 405), (405, o_sld L sc 406), (406, o_aload 407 0), (407, o_iload 408 3), (408, o_const 409 2), (409, o_iadd 410), (410, o_sld L sc 411), (411, o_callv 2 8 k_X8_safe 414), (414, o_aload 415 2), (415, o_aload 416 0), (416, o_iload 417 3), (417, o_const 418 1), (418, o_iadd 419), (419, o_sld L sc 420), (420, o_aload 421 0), (421, o_iload 422 3), (422, o_const 423 2), (423, o_iadd 424), (424, o_sld L sc 425), (425, o_callv 2 9 k_X9_safe 428), (428, o_same 1726), (431, o_const 432 0), (432, o_zret)]
set_option maxRecDepth 20000 in
theorem t_law_6 {X : zX} {L : Nat} {sc : Nat → Int32} (S : zScr X L sc) : ∀ q ∈ T_law_6 L sc, zSX X k_L_law q.1 q.2 := by
  unfold T_law_6
  refine List.forall_mem_cons.mpr ⟨zSX_of (s_aload_n (j := 1) (by decide +kernel) rfl rfl), ?_⟩
  refine List.forall_mem_cons.mpr ⟨zSX_of (s_aload_n (j := 0) (by decide +kernel) rfl rfl), ?_⟩
  refine List.forall_mem_cons.mpr ⟨zSX_of (s_iload_n (j := 3) (by decide +kernel) rfl rfl), ?_⟩
  refine List.forall_mem_cons.mpr ⟨zSX_of (s_iconst (by decide +kernel) rfl), ?_⟩
  refine List.forall_mem_cons.mpr ⟨zSX_of (s_iadd (by decide +kernel) rfl), ?_⟩
  refine List.forall_mem_cons.mpr ⟨s_sld (pc := 405) S (by decide +kernel) rfl, ?_⟩
  refine List.forall_mem_cons.mpr ⟨zSX_of (s_aload_n (j := 0) (by decide +kernel) rfl rfl), ?_⟩
  refine List.forall_mem_cons.mpr ⟨zSX_of (s_iload_n (j := 3) (by decide +kernel) rfl rfl), ?_⟩
  refine List.forall_mem_cons.mpr ⟨zSX_of (s_iconst (by decide +kernel) rfl), ?_⟩
  refine List.forall_mem_cons.mpr ⟨zSX_of (s_iadd (by decide +kernel) rfl), ?_⟩
  refine List.forall_mem_cons.mpr ⟨s_sld (pc := 410) S (by decide +kernel) rfl, ?_⟩
  refine List.forall_mem_cons.mpr ⟨zSX_of (s_callv (idx := 41) (k' := k_X8_safe) (T := TX8) (N := 10) rfl q2_195 q2_192 q2_193 q2_194 q1_1 de_X8_safe (by decide) (by decide +kernel) rfl), ?_⟩
  refine List.forall_mem_cons.mpr ⟨zSX_of (s_aload_n (j := 2) (by decide +kernel) rfl rfl), ?_⟩
  refine List.forall_mem_cons.mpr ⟨zSX_of (s_aload_n (j := 0) (by decide +kernel) rfl rfl), ?_⟩
  refine List.forall_mem_cons.mpr ⟨zSX_of (s_iload_n (j := 3) (by decide +kernel) rfl rfl), ?_⟩
  refine List.forall_mem_cons.mpr ⟨zSX_of (s_iconst (by decide +kernel) rfl), ?_⟩
  refine List.forall_mem_cons.mpr ⟨zSX_of (s_iadd (by decide +kernel) rfl), ?_⟩
  refine List.forall_mem_cons.mpr ⟨s_sld (pc := 419) S (by decide +kernel) rfl, ?_⟩
  refine List.forall_mem_cons.mpr ⟨zSX_of (s_aload_n (j := 0) (by decide +kernel) rfl rfl), ?_⟩
  refine List.forall_mem_cons.mpr ⟨zSX_of (s_iload_n (j := 3) (by decide +kernel) rfl rfl), ?_⟩
  refine List.forall_mem_cons.mpr ⟨zSX_of (s_iconst (by decide +kernel) rfl), ?_⟩
  refine List.forall_mem_cons.mpr ⟨zSX_of (s_iadd (by decide +kernel) rfl), ?_⟩
  refine List.forall_mem_cons.mpr ⟨s_sld (pc := 424) S (by decide +kernel) rfl, ?_⟩
  refine List.forall_mem_cons.mpr ⟨zSX_of (s_callv (idx := 44) (k' := k_X9_safe) (T := TX9) (N := 54) rfl q5_121 q5_118 q5_119 q5_120 q1_10 de_X9_safe (by decide) (by decide +kernel) rfl), ?_⟩
  refine List.forall_mem_cons.mpr ⟨s_same (pc := 428) (off := 1298) (by decide +kernel) (by decide), ?_⟩
  refine List.forall_mem_cons.mpr ⟨zSX_of (s_iconst (by decide +kernel) rfl), ?_⟩
  refine List.forall_mem_cons.mpr ⟨zSX_of (s_zret rfl (by decide +kernel)), ?_⟩
  exact fun q hq => absurd hq List.not_mem_nil
set_option maxHeartbeats 2000000 in
/-- 6: safe -/
theorem law_6 {X : zX} {L : Nat} {sc : Nat → Int32} (S : zScr X L sc) (C : zCx X 1000 k_L_law) (E : zEx X k_L_law (fun o _ => o = some (sI 1))) {i : Int} (i0 : 0 ≤ i) (i6 : i + 6 ≤ L) (IH : ∀ h, Inv2 h → zJ X 1726 [some (sR 99), some (sR 0), some (sR 52), some (sI i)] [] h) (h : zH) (hI : Inv2 h) : zJ X 400 [some (sR 99), some (sR 0), some (sR 52), some (sI i)] [] h := by
  have hL := S.2.2.2
  refine zrunX (t_law_6 S) C E [1726] 60 _ _ _ _ ?_
  refine And.intro (by omega) (And.intro (by omega) (And.intro (by omega) (And.intro (by omega) (?_))))
  refine zcall_i (d' := 999) (by omega) ((pr_safe (d := 999) (by omega) (i32_in _) (i32_in _)) h hI) ?_
  rintro _ g ⟨r, rfl, hm⟩
  refine And.intro (by omega) (And.intro (by omega) (And.intro (by omega) (And.intro (by omega) (?_))))
  refine zcall_i (d' := 999) (by omega) hm ?_
  rintro _ g' ⟨rfl, hI2⟩
  exact And.intro rfl (IH g' hI2)
def T_law_7 (L : Nat) (sc : Nat → Int32) : List (Nat × zO) := [(433, o_aload 434 1), (434, o_aload 435 0), (435, o_iload 436 3), (436, o_const 437 1), (437, o_iadd 438), (438, o_sld L sc 439), (439, o_aload 440 0), (440, o_iload 441 3), (441, o_const 442 2), (442, o_iadd 443), (443, o_sld L sc 444), (444, o_aload 445 0), (445, o_iload 446 3), (446, o_const 447 3), (447, o_iadd 448), (448, o_sld L sc 449), (449, o_callv 3 8 k_X8_alter 452), (452, o_aload 453 2), (453, o_aload 454 0), (454, o_iload 455 3), (455, o_const 456 1), (456, o_iadd 457), (457, o_sld L sc 458), (458, o_aload 459 0), (459, o_iload 460 3), (460, o_const 461 2), (461, o_iadd 462), (462, o_sld L sc 463), (463, o_aload 464 0), (464, o_iload 465 3), (465, o_const 466 3), (466, o_iadd 467), (467, o_sld L sc 468), (468, o_callv 3 9 k_X9_alter 471), (471, o_same 1726), (474, o_const 475 0), (475, o_zret)]
set_option maxRecDepth 20000 in
theorem t_law_7 {X : zX} {L : Nat} {sc : Nat → Int32} (S : zScr X L sc) : ∀ q ∈ T_law_7 L sc, zSX X k_L_law q.1 q.2 := by
  unfold T_law_7
  refine List.forall_mem_cons.mpr ⟨zSX_of (s_aload_n (j := 1) (by decide +kernel) rfl rfl), ?_⟩
  refine List.forall_mem_cons.mpr ⟨zSX_of (s_aload_n (j := 0) (by decide +kernel) rfl rfl), ?_⟩
  refine List.forall_mem_cons.mpr ⟨zSX_of (s_iload_n (j := 3) (by decide +kernel) rfl rfl), ?_⟩
  refine List.forall_mem_cons.mpr ⟨zSX_of (s_iconst (by decide +kernel) rfl), ?_⟩
  refine List.forall_mem_cons.mpr ⟨zSX_of (s_iadd (by decide +kernel) rfl), ?_⟩
  refine List.forall_mem_cons.mpr ⟨s_sld (pc := 438) S (by decide +kernel) rfl, ?_⟩
  refine List.forall_mem_cons.mpr ⟨zSX_of (s_aload_n (j := 0) (by decide +kernel) rfl rfl), ?_⟩
  refine List.forall_mem_cons.mpr ⟨zSX_of (s_iload_n (j := 3) (by decide +kernel) rfl rfl), ?_⟩
  refine List.forall_mem_cons.mpr ⟨zSX_of (s_iconst (by decide +kernel) rfl), ?_⟩
  refine List.forall_mem_cons.mpr ⟨zSX_of (s_iadd (by decide +kernel) rfl), ?_⟩
  refine List.forall_mem_cons.mpr ⟨s_sld (pc := 443) S (by decide +kernel) rfl, ?_⟩
  refine List.forall_mem_cons.mpr ⟨zSX_of (s_aload_n (j := 0) (by decide +kernel) rfl rfl), ?_⟩
  refine List.forall_mem_cons.mpr ⟨zSX_of (s_iload_n (j := 3) (by decide +kernel) rfl rfl), ?_⟩
  refine List.forall_mem_cons.mpr ⟨zSX_of (s_iconst (by decide +kernel) rfl), ?_⟩
  refine List.forall_mem_cons.mpr ⟨zSX_of (s_iadd (by decide +kernel) rfl), ?_⟩
  refine List.forall_mem_cons.mpr ⟨s_sld (pc := 448) S (by decide +kernel) rfl, ?_⟩
  refine List.forall_mem_cons.mpr ⟨zSX_of (s_callv (idx := 45) (k' := k_X8_alter) (T := TX8) (N := 10) rfl q2_212 q2_209 q2_210 q2_211 q1_1 de_X8_alter (by decide) (by decide +kernel) rfl), ?_⟩
  refine List.forall_mem_cons.mpr ⟨zSX_of (s_aload_n (j := 2) (by decide +kernel) rfl rfl), ?_⟩
  refine List.forall_mem_cons.mpr ⟨zSX_of (s_aload_n (j := 0) (by decide +kernel) rfl rfl), ?_⟩
  refine List.forall_mem_cons.mpr ⟨zSX_of (s_iload_n (j := 3) (by decide +kernel) rfl rfl), ?_⟩
  refine List.forall_mem_cons.mpr ⟨zSX_of (s_iconst (by decide +kernel) rfl), ?_⟩
  refine List.forall_mem_cons.mpr ⟨zSX_of (s_iadd (by decide +kernel) rfl), ?_⟩
  refine List.forall_mem_cons.mpr ⟨s_sld (pc := 457) S (by decide +kernel) rfl, ?_⟩
  refine List.forall_mem_cons.mpr ⟨zSX_of (s_aload_n (j := 0) (by decide +kernel) rfl rfl), ?_⟩
  refine List.forall_mem_cons.mpr ⟨zSX_of (s_iload_n (j := 3) (by decide +kernel) rfl rfl), ?_⟩
  refine List.forall_mem_cons.mpr ⟨zSX_of (s_iconst (by decide +kernel) rfl), ?_⟩
  refine List.forall_mem_cons.mpr ⟨zSX_of (s_iadd (by decide +kernel) rfl), ?_⟩
  refine List.forall_mem_cons.mpr ⟨s_sld (pc := 462) S (by decide +kernel) rfl, ?_⟩
  refine List.forall_mem_cons.mpr ⟨zSX_of (s_aload_n (j := 0) (by decide +kernel) rfl rfl), ?_⟩
  refine List.forall_mem_cons.mpr ⟨zSX_of (s_iload_n (j := 3) (by decide +kernel) rfl rfl), ?_⟩
  refine List.forall_mem_cons.mpr ⟨zSX_of (s_iconst (by decide +kernel) rfl), ?_⟩
  refine List.forall_mem_cons.mpr ⟨zSX_of (s_iadd (by decide +kernel) rfl), ?_⟩
  refine List.forall_mem_cons.mpr ⟨s_sld (pc := 467) S (by decide +kernel) rfl, ?_⟩
  refine List.forall_mem_cons.mpr ⟨zSX_of (s_callv (idx := 48) (k' := k_X9_alter) (T := TX9) (N := 54) rfl q5_129 q5_126 q5_127 q5_128 q1_10 de_X9_alter (by decide) (by decide +kernel) rfl), ?_⟩
  refine List.forall_mem_cons.mpr ⟨s_same (pc := 471) (off := 1255) (by decide +kernel) (by decide), ?_⟩
  refine List.forall_mem_cons.mpr ⟨zSX_of (s_iconst (by decide +kernel) rfl), ?_⟩
  refine List.forall_mem_cons.mpr ⟨zSX_of (s_zret rfl (by decide +kernel)), ?_⟩
  exact fun q hq => absurd hq List.not_mem_nil
set_option maxHeartbeats 2000000 in
/-- 7: alter -/
theorem law_7 {X : zX} {L : Nat} {sc : Nat → Int32} (S : zScr X L sc) (C : zCx X 1000 k_L_law) (E : zEx X k_L_law (fun o _ => o = some (sI 1))) {i : Int} (i0 : 0 ≤ i) (i6 : i + 6 ≤ L) (IH : ∀ h, Inv2 h → zJ X 1726 [some (sR 99), some (sR 0), some (sR 52), some (sI i)] [] h) (h : zH) (hI : Inv2 h) : zJ X 433 [some (sR 99), some (sR 0), some (sR 52), some (sI i)] [] h := by
  have hL := S.2.2.2
  refine zrunX (t_law_7 S) C E [1726] 60 _ _ _ _ ?_
  refine And.intro (by omega) (And.intro (by omega) (And.intro (by omega) (And.intro (by omega) (And.intro (by omega) (And.intro (by omega) (?_))))))
  refine zcall_i (d' := 999) (by omega) ((pr_alter (d := 999) (by omega) (i32_in _) (i32_in _) (i32_in _)) h hI) ?_
  rintro _ g ⟨r, rfl, hm⟩
  refine And.intro (by omega) (And.intro (by omega) (And.intro (by omega) (And.intro (by omega) (And.intro (by omega) (And.intro (by omega) (?_))))))
  refine zcall_i (d' := 999) (by omega) hm ?_
  rintro _ g' ⟨rfl, hI2⟩
  exact And.intro rfl (IH g' hI2)
def T_law_8 (L : Nat) (sc : Nat → Int32) : List (Nat × zO) := [(476, o_aload 477 1), (477, o_aload 478 0), (478, o_iload 479 3), (479, o_const 480 1), (480, o_iadd 481), (481, o_sld L sc 482), (482, o_aload 483 0), (483, o_iload 484 3), (484, o_const 485 2), (485, o_iadd 486), (486, o_sld L sc 487), (487, o_callv 2 8 k_X8_sort 490), (490, o_aload 491 2), (491, o_aload 492 0), (492, o_iload 493 3), (493, o_const 494 1), (494, o_iadd 495), (495, o_sld L sc 496), (496, o_aload 497 0), (497, o_iload 498 3), (498, o_const 499 2), (499, o_iadd 500), (500, o_sld L sc 501), (501, o_callv 2 9 k_X9_sort 504), (504, o_same 1726), (507, o_const 508 0), (508, o_zret)]
set_option maxRecDepth 20000 in
theorem t_law_8 {X : zX} {L : Nat} {sc : Nat → Int32} (S : zScr X L sc) : ∀ q ∈ T_law_8 L sc, zSX X k_L_law q.1 q.2 := by
  unfold T_law_8
  refine List.forall_mem_cons.mpr ⟨zSX_of (s_aload_n (j := 1) (by decide +kernel) rfl rfl), ?_⟩
  refine List.forall_mem_cons.mpr ⟨zSX_of (s_aload_n (j := 0) (by decide +kernel) rfl rfl), ?_⟩
  refine List.forall_mem_cons.mpr ⟨zSX_of (s_iload_n (j := 3) (by decide +kernel) rfl rfl), ?_⟩
  refine List.forall_mem_cons.mpr ⟨zSX_of (s_iconst (by decide +kernel) rfl), ?_⟩
  refine List.forall_mem_cons.mpr ⟨zSX_of (s_iadd (by decide +kernel) rfl), ?_⟩
  refine List.forall_mem_cons.mpr ⟨s_sld (pc := 481) S (by decide +kernel) rfl, ?_⟩
  refine List.forall_mem_cons.mpr ⟨zSX_of (s_aload_n (j := 0) (by decide +kernel) rfl rfl), ?_⟩
  refine List.forall_mem_cons.mpr ⟨zSX_of (s_iload_n (j := 3) (by decide +kernel) rfl rfl), ?_⟩
  refine List.forall_mem_cons.mpr ⟨zSX_of (s_iconst (by decide +kernel) rfl), ?_⟩
  refine List.forall_mem_cons.mpr ⟨zSX_of (s_iadd (by decide +kernel) rfl), ?_⟩
  refine List.forall_mem_cons.mpr ⟨s_sld (pc := 486) S (by decide +kernel) rfl, ?_⟩
  refine List.forall_mem_cons.mpr ⟨zSX_of (s_callv (idx := 49) (k' := k_X8_sort) (T := TX8) (N := 10) rfl q2_220 q2_217 q2_218 q2_219 q1_1 de_X8_sort (by decide) (by decide +kernel) rfl), ?_⟩
  refine List.forall_mem_cons.mpr ⟨zSX_of (s_aload_n (j := 2) (by decide +kernel) rfl rfl), ?_⟩
  refine List.forall_mem_cons.mpr ⟨zSX_of (s_aload_n (j := 0) (by decide +kernel) rfl rfl), ?_⟩
  refine List.forall_mem_cons.mpr ⟨zSX_of (s_iload_n (j := 3) (by decide +kernel) rfl rfl), ?_⟩
  refine List.forall_mem_cons.mpr ⟨zSX_of (s_iconst (by decide +kernel) rfl), ?_⟩
  refine List.forall_mem_cons.mpr ⟨zSX_of (s_iadd (by decide +kernel) rfl), ?_⟩
  refine List.forall_mem_cons.mpr ⟨s_sld (pc := 495) S (by decide +kernel) rfl, ?_⟩
  refine List.forall_mem_cons.mpr ⟨zSX_of (s_aload_n (j := 0) (by decide +kernel) rfl rfl), ?_⟩
  refine List.forall_mem_cons.mpr ⟨zSX_of (s_iload_n (j := 3) (by decide +kernel) rfl rfl), ?_⟩
  refine List.forall_mem_cons.mpr ⟨zSX_of (s_iconst (by decide +kernel) rfl), ?_⟩
  refine List.forall_mem_cons.mpr ⟨zSX_of (s_iadd (by decide +kernel) rfl), ?_⟩
  refine List.forall_mem_cons.mpr ⟨s_sld (pc := 500) S (by decide +kernel) rfl, ?_⟩
  refine List.forall_mem_cons.mpr ⟨zSX_of (s_callv (idx := 52) (k' := k_X9_sort) (T := TX9) (N := 54) rfl q5_137 q5_134 q5_135 q5_136 q1_10 de_X9_sort (by decide) (by decide +kernel) rfl), ?_⟩
  refine List.forall_mem_cons.mpr ⟨s_same (pc := 504) (off := 1222) (by decide +kernel) (by decide), ?_⟩
  refine List.forall_mem_cons.mpr ⟨zSX_of (s_iconst (by decide +kernel) rfl), ?_⟩
  refine List.forall_mem_cons.mpr ⟨zSX_of (s_zret rfl (by decide +kernel)), ?_⟩
  exact fun q hq => absurd hq List.not_mem_nil
set_option maxHeartbeats 2000000 in
/-- 8: sort -/
theorem law_8 {X : zX} {L : Nat} {sc : Nat → Int32} (S : zScr X L sc) (C : zCx X 1000 k_L_law) (E : zEx X k_L_law (fun o _ => o = some (sI 1))) {i : Int} (i0 : 0 ≤ i) (i6 : i + 6 ≤ L) (IH : ∀ h, Inv2 h → zJ X 1726 [some (sR 99), some (sR 0), some (sR 52), some (sI i)] [] h) (h : zH) (hI : Inv2 h) : zJ X 476 [some (sR 99), some (sR 0), some (sR 52), some (sI i)] [] h := by
  have hL := S.2.2.2
  refine zrunX (t_law_8 S) C E [1726] 60 _ _ _ _ ?_
  refine And.intro (by omega) (And.intro (by omega) (And.intro (by omega) (And.intro (by omega) (?_))))
  refine zcall_i (d' := 999) (by omega) ((pr_sort (d := 999) (by omega) (i32_in _) (i32_in _)) h hI) ?_
  rintro _ g ⟨r, rfl, hm⟩
  refine And.intro (by omega) (And.intro (by omega) (And.intro (by omega) (And.intro (by omega) (?_))))
  refine zcall_i (d' := 999) (by omega) hm ?_
  rintro _ g' ⟨rfl, hI2⟩
  exact And.intro rfl (IH g' hI2)
def T_law_9 (L : Nat) (sc : Nat → Int32) : List (Nat × zO) := [(509, o_aload 510 1), (510, o_aload 511 0), (511, o_iload 512 3), (512, o_const 513 1), (513, o_iadd 514), (514, o_sld L sc 515), (515, o_aload 516 0), (516, o_iload 517 3), (517, o_const 518 2), (518, o_iadd 519), (519, o_sld L sc 520), (520, o_callv 2 8 k_X8_light 523), (523, o_aload 524 2), (524, o_aload 525 0), (525, o_iload 526 3), (526, o_const 527 1), (527, o_iadd 528), (528, o_sld L sc 529), (529, o_aload 530 0), (530, o_iload 531 3), (531, o_const 532 2), (532, o_iadd 533), (533, o_sld L sc 534), (534, o_callv 2 9 k_X9_light 537), (537, o_same 1726), (540, o_const 541 0), (541, o_zret)]
set_option maxRecDepth 20000 in
theorem t_law_9 {X : zX} {L : Nat} {sc : Nat → Int32} (S : zScr X L sc) : ∀ q ∈ T_law_9 L sc, zSX X k_L_law q.1 q.2 := by
  unfold T_law_9
  refine List.forall_mem_cons.mpr ⟨zSX_of (s_aload_n (j := 1) (by decide +kernel) rfl rfl), ?_⟩
  refine List.forall_mem_cons.mpr ⟨zSX_of (s_aload_n (j := 0) (by decide +kernel) rfl rfl), ?_⟩
  refine List.forall_mem_cons.mpr ⟨zSX_of (s_iload_n (j := 3) (by decide +kernel) rfl rfl), ?_⟩
  refine List.forall_mem_cons.mpr ⟨zSX_of (s_iconst (by decide +kernel) rfl), ?_⟩
  refine List.forall_mem_cons.mpr ⟨zSX_of (s_iadd (by decide +kernel) rfl), ?_⟩
  refine List.forall_mem_cons.mpr ⟨s_sld (pc := 514) S (by decide +kernel) rfl, ?_⟩
  refine List.forall_mem_cons.mpr ⟨zSX_of (s_aload_n (j := 0) (by decide +kernel) rfl rfl), ?_⟩
  refine List.forall_mem_cons.mpr ⟨zSX_of (s_iload_n (j := 3) (by decide +kernel) rfl rfl), ?_⟩
  refine List.forall_mem_cons.mpr ⟨zSX_of (s_iconst (by decide +kernel) rfl), ?_⟩
  refine List.forall_mem_cons.mpr ⟨zSX_of (s_iadd (by decide +kernel) rfl), ?_⟩
  refine List.forall_mem_cons.mpr ⟨s_sld (pc := 519) S (by decide +kernel) rfl, ?_⟩
  refine List.forall_mem_cons.mpr ⟨zSX_of (s_callv (idx := 53) (k' := k_X8_light) (T := TX8) (N := 10) rfl q2_227 q2_224 q2_225 q2_226 q1_1 de_X8_light (by decide) (by decide +kernel) rfl), ?_⟩
  refine List.forall_mem_cons.mpr ⟨zSX_of (s_aload_n (j := 2) (by decide +kernel) rfl rfl), ?_⟩
  refine List.forall_mem_cons.mpr ⟨zSX_of (s_aload_n (j := 0) (by decide +kernel) rfl rfl), ?_⟩
  refine List.forall_mem_cons.mpr ⟨zSX_of (s_iload_n (j := 3) (by decide +kernel) rfl rfl), ?_⟩
  refine List.forall_mem_cons.mpr ⟨zSX_of (s_iconst (by decide +kernel) rfl), ?_⟩
  refine List.forall_mem_cons.mpr ⟨zSX_of (s_iadd (by decide +kernel) rfl), ?_⟩
  refine List.forall_mem_cons.mpr ⟨s_sld (pc := 528) S (by decide +kernel) rfl, ?_⟩
  refine List.forall_mem_cons.mpr ⟨zSX_of (s_aload_n (j := 0) (by decide +kernel) rfl rfl), ?_⟩
  refine List.forall_mem_cons.mpr ⟨zSX_of (s_iload_n (j := 3) (by decide +kernel) rfl rfl), ?_⟩
  refine List.forall_mem_cons.mpr ⟨zSX_of (s_iconst (by decide +kernel) rfl), ?_⟩
  refine List.forall_mem_cons.mpr ⟨zSX_of (s_iadd (by decide +kernel) rfl), ?_⟩
  refine List.forall_mem_cons.mpr ⟨s_sld (pc := 533) S (by decide +kernel) rfl, ?_⟩
  refine List.forall_mem_cons.mpr ⟨zSX_of (s_callv (idx := 56) (k' := k_X9_light) (T := TX9) (N := 54) rfl q5_147 q5_144 q5_145 q5_146 q1_10 de_X9_light (by decide) (by decide +kernel) rfl), ?_⟩
  refine List.forall_mem_cons.mpr ⟨s_same (pc := 537) (off := 1189) (by decide +kernel) (by decide), ?_⟩
  refine List.forall_mem_cons.mpr ⟨zSX_of (s_iconst (by decide +kernel) rfl), ?_⟩
  refine List.forall_mem_cons.mpr ⟨zSX_of (s_zret rfl (by decide +kernel)), ?_⟩
  exact fun q hq => absurd hq List.not_mem_nil
set_option maxHeartbeats 2000000 in
/-- 9: light -/
theorem law_9 {X : zX} {L : Nat} {sc : Nat → Int32} (S : zScr X L sc) (C : zCx X 1000 k_L_law) (E : zEx X k_L_law (fun o _ => o = some (sI 1))) {i : Int} (i0 : 0 ≤ i) (i6 : i + 6 ≤ L) (IH : ∀ h, Inv2 h → zJ X 1726 [some (sR 99), some (sR 0), some (sR 52), some (sI i)] [] h) (h : zH) (hI : Inv2 h) : zJ X 509 [some (sR 99), some (sR 0), some (sR 52), some (sI i)] [] h := by
  have hL := S.2.2.2
  refine zrunX (t_law_9 S) C E [1726] 60 _ _ _ _ ?_
  refine And.intro (by omega) (And.intro (by omega) (And.intro (by omega) (And.intro (by omega) (?_))))
  refine zcall_i (d' := 999) (by omega) ((pr_light (d := 999) (by omega) (i32_in _) (i32_in _)) h hI) ?_
  rintro _ g ⟨r, rfl, hm⟩
  refine And.intro (by omega) (And.intro (by omega) (And.intro (by omega) (And.intro (by omega) (?_))))
  refine zcall_i (d' := 999) (by omega) hm ?_
  rintro _ g' ⟨rfl, hI2⟩
  exact And.intro rfl (IH g' hI2)
def T_law_10 (L : Nat) (sc : Nat → Int32) : List (Nat × zO) := [(542, o_aload 543 1), (543, o_aload 544 0), (544, o_iload 545 3), (545, o_const 546 1), (546, o_iadd 547), (547, o_sld L sc 548), (548, o_aload 549 0), (549, o_iload 550 3), (550, o_const 551 2), (551, o_iadd 552), (552, o_sld L sc 553), (553, o_aload 554 0), (554, o_iload 555 3), (555, o_const 556 3), (556, o_iadd 557), (557, o_sld L sc 558), (558, o_callv 3 8 k_X8_takes 561), (561, o_aload 562 2), (562, o_aload 563 0), (563, o_iload 564 3), (564, o_const 565 1), (565, o_iadd 566), (566, o_sld L sc 567), (567, o_aload 568 0), (568, o_iload 569 3), (569, o_const 570 2), (570, o_iadd 571), (571, o_sld L sc 572), (572, o_aload 573 0), (573, o_iload 574 3), (574, o_const 575 3), (575, o_iadd 576), (576, o_sld L sc 577), (577, o_callv 3 9 k_X9_takes 580), (580, o_same 1726), (583, o_const 584 0), (584, o_zret)]
set_option maxRecDepth 20000 in
theorem t_law_10 {X : zX} {L : Nat} {sc : Nat → Int32} (S : zScr X L sc) : ∀ q ∈ T_law_10 L sc, zSX X k_L_law q.1 q.2 := by
  unfold T_law_10
  refine List.forall_mem_cons.mpr ⟨zSX_of (s_aload_n (j := 1) (by decide +kernel) rfl rfl), ?_⟩
  refine List.forall_mem_cons.mpr ⟨zSX_of (s_aload_n (j := 0) (by decide +kernel) rfl rfl), ?_⟩
  refine List.forall_mem_cons.mpr ⟨zSX_of (s_iload_n (j := 3) (by decide +kernel) rfl rfl), ?_⟩
  refine List.forall_mem_cons.mpr ⟨zSX_of (s_iconst (by decide +kernel) rfl), ?_⟩
  refine List.forall_mem_cons.mpr ⟨zSX_of (s_iadd (by decide +kernel) rfl), ?_⟩
  refine List.forall_mem_cons.mpr ⟨s_sld (pc := 547) S (by decide +kernel) rfl, ?_⟩
  refine List.forall_mem_cons.mpr ⟨zSX_of (s_aload_n (j := 0) (by decide +kernel) rfl rfl), ?_⟩
  refine List.forall_mem_cons.mpr ⟨zSX_of (s_iload_n (j := 3) (by decide +kernel) rfl rfl), ?_⟩
  refine List.forall_mem_cons.mpr ⟨zSX_of (s_iconst (by decide +kernel) rfl), ?_⟩
  refine List.forall_mem_cons.mpr ⟨zSX_of (s_iadd (by decide +kernel) rfl), ?_⟩
  refine List.forall_mem_cons.mpr ⟨s_sld (pc := 552) S (by decide +kernel) rfl, ?_⟩
  refine List.forall_mem_cons.mpr ⟨zSX_of (s_aload_n (j := 0) (by decide +kernel) rfl rfl), ?_⟩
  refine List.forall_mem_cons.mpr ⟨zSX_of (s_iload_n (j := 3) (by decide +kernel) rfl rfl), ?_⟩
  refine List.forall_mem_cons.mpr ⟨zSX_of (s_iconst (by decide +kernel) rfl), ?_⟩
  refine List.forall_mem_cons.mpr ⟨zSX_of (s_iadd (by decide +kernel) rfl), ?_⟩
  refine List.forall_mem_cons.mpr ⟨s_sld (pc := 557) S (by decide +kernel) rfl, ?_⟩
  refine List.forall_mem_cons.mpr ⟨zSX_of (s_callv (idx := 57) (k' := k_X8_takes) (T := TX8) (N := 10) rfl q2_231 q2_228 q2_229 q2_230 q1_1 de_X8_takes (by decide) (by decide +kernel) rfl), ?_⟩
  refine List.forall_mem_cons.mpr ⟨zSX_of (s_aload_n (j := 2) (by decide +kernel) rfl rfl), ?_⟩
  refine List.forall_mem_cons.mpr ⟨zSX_of (s_aload_n (j := 0) (by decide +kernel) rfl rfl), ?_⟩
  refine List.forall_mem_cons.mpr ⟨zSX_of (s_iload_n (j := 3) (by decide +kernel) rfl rfl), ?_⟩
  refine List.forall_mem_cons.mpr ⟨zSX_of (s_iconst (by decide +kernel) rfl), ?_⟩
  refine List.forall_mem_cons.mpr ⟨zSX_of (s_iadd (by decide +kernel) rfl), ?_⟩
  refine List.forall_mem_cons.mpr ⟨s_sld (pc := 566) S (by decide +kernel) rfl, ?_⟩
  refine List.forall_mem_cons.mpr ⟨zSX_of (s_aload_n (j := 0) (by decide +kernel) rfl rfl), ?_⟩
  refine List.forall_mem_cons.mpr ⟨zSX_of (s_iload_n (j := 3) (by decide +kernel) rfl rfl), ?_⟩
  refine List.forall_mem_cons.mpr ⟨zSX_of (s_iconst (by decide +kernel) rfl), ?_⟩
  refine List.forall_mem_cons.mpr ⟨zSX_of (s_iadd (by decide +kernel) rfl), ?_⟩
  refine List.forall_mem_cons.mpr ⟨s_sld (pc := 571) S (by decide +kernel) rfl, ?_⟩
  refine List.forall_mem_cons.mpr ⟨zSX_of (s_aload_n (j := 0) (by decide +kernel) rfl rfl), ?_⟩
  refine List.forall_mem_cons.mpr ⟨zSX_of (s_iload_n (j := 3) (by decide +kernel) rfl rfl), ?_⟩
  refine List.forall_mem_cons.mpr ⟨zSX_of (s_iconst (by decide +kernel) rfl), ?_⟩
  refine List.forall_mem_cons.mpr ⟨zSX_of (s_iadd (by decide +kernel) rfl), ?_⟩
  refine List.forall_mem_cons.mpr ⟨s_sld (pc := 576) S (by decide +kernel) rfl, ?_⟩
  refine List.forall_mem_cons.mpr ⟨zSX_of (s_callv (idx := 60) (k' := k_X9_takes) (T := TX9) (N := 54) rfl q5_151 q5_148 q5_149 q5_150 q1_10 de_X9_takes (by decide) (by decide +kernel) rfl), ?_⟩
  refine List.forall_mem_cons.mpr ⟨s_same (pc := 580) (off := 1146) (by decide +kernel) (by decide), ?_⟩
  refine List.forall_mem_cons.mpr ⟨zSX_of (s_iconst (by decide +kernel) rfl), ?_⟩
  refine List.forall_mem_cons.mpr ⟨zSX_of (s_zret rfl (by decide +kernel)), ?_⟩
  exact fun q hq => absurd hq List.not_mem_nil
set_option maxHeartbeats 2000000 in
/-- 10: takes -/
theorem law_10 {X : zX} {L : Nat} {sc : Nat → Int32} (S : zScr X L sc) (C : zCx X 1000 k_L_law) (E : zEx X k_L_law (fun o _ => o = some (sI 1))) {i : Int} (i0 : 0 ≤ i) (i6 : i + 6 ≤ L) (IH : ∀ h, Inv2 h → zJ X 1726 [some (sR 99), some (sR 0), some (sR 52), some (sI i)] [] h) (h : zH) (hI : Inv2 h) : zJ X 542 [some (sR 99), some (sR 0), some (sR 52), some (sI i)] [] h := by
  have hL := S.2.2.2
  refine zrunX (t_law_10 S) C E [1726] 60 _ _ _ _ ?_
  refine And.intro (by omega) (And.intro (by omega) (And.intro (by omega) (And.intro (by omega) (And.intro (by omega) (And.intro (by omega) (?_))))))
  refine zcall_i (d' := 999) (by omega) ((Pair2_of (pr_takes (d := 999) (by omega) (i32_in _) (i32_in _) (i32_in _))) h hI) ?_
  rintro _ g ⟨r, rfl, hm⟩
  refine And.intro (by omega) (And.intro (by omega) (And.intro (by omega) (And.intro (by omega) (And.intro (by omega) (And.intro (by omega) (?_))))))
  refine zcall_i (d' := 999) (by omega) hm ?_
  rintro _ g' ⟨rfl, hI2⟩
  exact And.intro rfl (IH g' hI2)
def T_law_11 (L : Nat) (sc : Nat → Int32) : List (Nat × zO) := [(585, o_aload 586 1), (586, o_aload 587 0), (587, o_iload 588 3), (588, o_const 589 1), (589, o_iadd 590), (590, o_sld L sc 591), (591, o_aload 592 0), (592, o_iload 593 3), (593, o_const 594 2), (594, o_iadd 595), (595, o_sld L sc 596), (596, o_aload 597 0), (597, o_iload 598 3), (598, o_const 599 3), (599, o_iadd 600), (600, o_sld L sc 601), (601, o_aload 602 0), (602, o_iload 603 3), (603, o_const 604 4), (604, o_iadd 605), (605, o_sld L sc 606), (606, o_callv 4 8 k_X8_open 609), (609, o_aload 610 2), (610, o_aload 611 0), (611, o_iload 612 3), (612, o_const 613 1), (613, o_iadd 614), (614, o_sld L sc 615), (615, o_aload 616 0), (616, o_iload 617 3), (617, o_const 618 2), (618, o_iadd 619), (619, o_sld L sc 620), (620, o_aload 621 0), (621, o_iload 622 3), (622, o_const 623 3), (623, o_iadd 624), (624, o_sld L sc 625), (625, o_aload 626 0), (626, o_iload 627 3), (627, o_const 628 4), (628, o_iadd 629), (629, o_sld L sc 630), (630, o_callv 4 9 k_X9_open 633), (633, o_same 1726), (636, o_const 637 0), (637, o_zret)]
set_option maxRecDepth 20000 in
theorem t_law_11 {X : zX} {L : Nat} {sc : Nat → Int32} (S : zScr X L sc) : ∀ q ∈ T_law_11 L sc, zSX X k_L_law q.1 q.2 := by
  unfold T_law_11
  refine List.forall_mem_cons.mpr ⟨zSX_of (s_aload_n (j := 1) (by decide +kernel) rfl rfl), ?_⟩
  refine List.forall_mem_cons.mpr ⟨zSX_of (s_aload_n (j := 0) (by decide +kernel) rfl rfl), ?_⟩
  refine List.forall_mem_cons.mpr ⟨zSX_of (s_iload_n (j := 3) (by decide +kernel) rfl rfl), ?_⟩
  refine List.forall_mem_cons.mpr ⟨zSX_of (s_iconst (by decide +kernel) rfl), ?_⟩
  refine List.forall_mem_cons.mpr ⟨zSX_of (s_iadd (by decide +kernel) rfl), ?_⟩
  refine List.forall_mem_cons.mpr ⟨s_sld (pc := 590) S (by decide +kernel) rfl, ?_⟩
  refine List.forall_mem_cons.mpr ⟨zSX_of (s_aload_n (j := 0) (by decide +kernel) rfl rfl), ?_⟩
  refine List.forall_mem_cons.mpr ⟨zSX_of (s_iload_n (j := 3) (by decide +kernel) rfl rfl), ?_⟩
  refine List.forall_mem_cons.mpr ⟨zSX_of (s_iconst (by decide +kernel) rfl), ?_⟩
  refine List.forall_mem_cons.mpr ⟨zSX_of (s_iadd (by decide +kernel) rfl), ?_⟩
  refine List.forall_mem_cons.mpr ⟨s_sld (pc := 595) S (by decide +kernel) rfl, ?_⟩
  refine List.forall_mem_cons.mpr ⟨zSX_of (s_aload_n (j := 0) (by decide +kernel) rfl rfl), ?_⟩
  refine List.forall_mem_cons.mpr ⟨zSX_of (s_iload_n (j := 3) (by decide +kernel) rfl rfl), ?_⟩
  refine List.forall_mem_cons.mpr ⟨zSX_of (s_iconst (by decide +kernel) rfl), ?_⟩
  refine List.forall_mem_cons.mpr ⟨zSX_of (s_iadd (by decide +kernel) rfl), ?_⟩
  refine List.forall_mem_cons.mpr ⟨s_sld (pc := 600) S (by decide +kernel) rfl, ?_⟩
  refine List.forall_mem_cons.mpr ⟨zSX_of (s_aload_n (j := 0) (by decide +kernel) rfl rfl), ?_⟩
  refine List.forall_mem_cons.mpr ⟨zSX_of (s_iload_n (j := 3) (by decide +kernel) rfl rfl), ?_⟩
  refine List.forall_mem_cons.mpr ⟨zSX_of (s_iconst (by decide +kernel) rfl), ?_⟩
  refine List.forall_mem_cons.mpr ⟨zSX_of (s_iadd (by decide +kernel) rfl), ?_⟩
  refine List.forall_mem_cons.mpr ⟨s_sld (pc := 605) S (by decide +kernel) rfl, ?_⟩
  refine List.forall_mem_cons.mpr ⟨zSX_of (s_callv (idx := 61) (k' := k_X8_open) (T := TX8) (N := 10) rfl q2_239 q2_236 q2_237 q2_238 q1_1 de_X8_open (by decide) (by decide +kernel) rfl), ?_⟩
  refine List.forall_mem_cons.mpr ⟨zSX_of (s_aload_n (j := 2) (by decide +kernel) rfl rfl), ?_⟩
  refine List.forall_mem_cons.mpr ⟨zSX_of (s_aload_n (j := 0) (by decide +kernel) rfl rfl), ?_⟩
  refine List.forall_mem_cons.mpr ⟨zSX_of (s_iload_n (j := 3) (by decide +kernel) rfl rfl), ?_⟩
  refine List.forall_mem_cons.mpr ⟨zSX_of (s_iconst (by decide +kernel) rfl), ?_⟩
  refine List.forall_mem_cons.mpr ⟨zSX_of (s_iadd (by decide +kernel) rfl), ?_⟩
  refine List.forall_mem_cons.mpr ⟨s_sld (pc := 614) S (by decide +kernel) rfl, ?_⟩
  refine List.forall_mem_cons.mpr ⟨zSX_of (s_aload_n (j := 0) (by decide +kernel) rfl rfl), ?_⟩
  refine List.forall_mem_cons.mpr ⟨zSX_of (s_iload_n (j := 3) (by decide +kernel) rfl rfl), ?_⟩
  refine List.forall_mem_cons.mpr ⟨zSX_of (s_iconst (by decide +kernel) rfl), ?_⟩
  refine List.forall_mem_cons.mpr ⟨zSX_of (s_iadd (by decide +kernel) rfl), ?_⟩
  refine List.forall_mem_cons.mpr ⟨s_sld (pc := 619) S (by decide +kernel) rfl, ?_⟩
  refine List.forall_mem_cons.mpr ⟨zSX_of (s_aload_n (j := 0) (by decide +kernel) rfl rfl), ?_⟩
  refine List.forall_mem_cons.mpr ⟨zSX_of (s_iload_n (j := 3) (by decide +kernel) rfl rfl), ?_⟩
  refine List.forall_mem_cons.mpr ⟨zSX_of (s_iconst (by decide +kernel) rfl), ?_⟩
  refine List.forall_mem_cons.mpr ⟨zSX_of (s_iadd (by decide +kernel) rfl), ?_⟩
  refine List.forall_mem_cons.mpr ⟨s_sld (pc := 624) S (by decide +kernel) rfl, ?_⟩
  refine List.forall_mem_cons.mpr ⟨zSX_of (s_aload_n (j := 0) (by decide +kernel) rfl rfl), ?_⟩
  refine List.forall_mem_cons.mpr ⟨zSX_of (s_iload_n (j := 3) (by decide +kernel) rfl rfl), ?_⟩
  refine List.forall_mem_cons.mpr ⟨zSX_of (s_iconst (by decide +kernel) rfl), ?_⟩
  refine List.forall_mem_cons.mpr ⟨zSX_of (s_iadd (by decide +kernel) rfl), ?_⟩
  refine List.forall_mem_cons.mpr ⟨s_sld (pc := 629) S (by decide +kernel) rfl, ?_⟩
  refine List.forall_mem_cons.mpr ⟨zSX_of (s_callv (idx := 65) (k' := k_X9_open) (T := TX9) (N := 54) rfl q5_159 q5_156 q5_157 q5_158 q1_10 de_X9_open (by decide) (by decide +kernel) rfl), ?_⟩
  refine List.forall_mem_cons.mpr ⟨s_same (pc := 633) (off := 1093) (by decide +kernel) (by decide), ?_⟩
  refine List.forall_mem_cons.mpr ⟨zSX_of (s_iconst (by decide +kernel) rfl), ?_⟩
  refine List.forall_mem_cons.mpr ⟨zSX_of (s_zret rfl (by decide +kernel)), ?_⟩
  exact fun q hq => absurd hq List.not_mem_nil
set_option maxHeartbeats 2000000 in
/-- 11: open -/
theorem law_11 {X : zX} {L : Nat} {sc : Nat → Int32} (S : zScr X L sc) (C : zCx X 1000 k_L_law) (E : zEx X k_L_law (fun o _ => o = some (sI 1))) {i : Int} (i0 : 0 ≤ i) (i6 : i + 6 ≤ L) (IH : ∀ h, Inv2 h → zJ X 1726 [some (sR 99), some (sR 0), some (sR 52), some (sI i)] [] h) (h : zH) (hI : Inv2 h) : zJ X 585 [some (sR 99), some (sR 0), some (sR 52), some (sI i)] [] h := by
  have hL := S.2.2.2
  refine zrunX (t_law_11 S) C E [1726] 60 _ _ _ _ ?_
  refine And.intro (by omega) (And.intro (by omega) (And.intro (by omega) (And.intro (by omega) (And.intro (by omega) (And.intro (by omega) (And.intro (by omega) (And.intro (by omega) (?_))))))))
  refine zcall_i (d' := 999) (by omega) ((pr_open (d := 999) (by omega) (i32_in _) (i32_in _) (i32_in _) (i32_in _)) h hI) ?_
  rintro _ g ⟨r, rfl, hm⟩
  refine And.intro (by omega) (And.intro (by omega) (And.intro (by omega) (And.intro (by omega) (And.intro (by omega) (And.intro (by omega) (And.intro (by omega) (And.intro (by omega) (?_))))))))
  refine zcall_i (d' := 999) (by omega) hm ?_
  rintro _ g' ⟨rfl, hI2⟩
  exact And.intro rfl (IH g' hI2)
def T_law_12 (L : Nat) (sc : Nat → Int32) : List (Nat × zO) := [(638, o_aload 639 1), (639, o_aload 640 0), (640, o_iload 641 3), (641, o_const 642 1), (642, o_iadd 643), (643, o_sld L sc 644), (644, o_aload 645 0), (645, o_iload 646 3), (646, o_const 647 2), (647, o_iadd 648), (648, o_sld L sc 649), (649, o_aload 650 0), (650, o_iload 651 3), (651, o_const 652 3), (652, o_iadd 653), (653, o_sld L sc 654), (654, o_aload 655 0), (655, o_iload 656 3), (656, o_const 657 4), (657, o_iadd 658), (658, o_sld L sc 659), (659, o_callv 4 8 k_X8_soon 662), (662, o_aload 663 2), (663, o_aload 664 0), (664, o_iload 665 3), (665, o_const 666 1), (666, o_iadd 667), (667, o_sld L sc 668), (668, o_aload 669 0), (669, o_iload 670 3), (670, o_const 671 2), (671, o_iadd 672), (672, o_sld L sc 673), (673, o_aload 674 0), (674, o_iload 675 3), (675, o_const 676 3), (676, o_iadd 677), (677, o_sld L sc 678), (678, o_aload 679 0), (679, o_iload 680 3), (680, o_const 681 4), (681, o_iadd 682), (682, o_sld L sc 683), (683, o_callv 4 9 k_X9_soon 686), (686, o_same 1726), (689, o_const 690 0), (690, o_zret)]
set_option maxRecDepth 20000 in
theorem t_law_12 {X : zX} {L : Nat} {sc : Nat → Int32} (S : zScr X L sc) : ∀ q ∈ T_law_12 L sc, zSX X k_L_law q.1 q.2 := by
  unfold T_law_12
  refine List.forall_mem_cons.mpr ⟨zSX_of (s_aload_n (j := 1) (by decide +kernel) rfl rfl), ?_⟩
  refine List.forall_mem_cons.mpr ⟨zSX_of (s_aload_n (j := 0) (by decide +kernel) rfl rfl), ?_⟩
  refine List.forall_mem_cons.mpr ⟨zSX_of (s_iload_n (j := 3) (by decide +kernel) rfl rfl), ?_⟩
  refine List.forall_mem_cons.mpr ⟨zSX_of (s_iconst (by decide +kernel) rfl), ?_⟩
  refine List.forall_mem_cons.mpr ⟨zSX_of (s_iadd (by decide +kernel) rfl), ?_⟩
  refine List.forall_mem_cons.mpr ⟨s_sld (pc := 643) S (by decide +kernel) rfl, ?_⟩
  refine List.forall_mem_cons.mpr ⟨zSX_of (s_aload_n (j := 0) (by decide +kernel) rfl rfl), ?_⟩
  refine List.forall_mem_cons.mpr ⟨zSX_of (s_iload_n (j := 3) (by decide +kernel) rfl rfl), ?_⟩
  refine List.forall_mem_cons.mpr ⟨zSX_of (s_iconst (by decide +kernel) rfl), ?_⟩
  refine List.forall_mem_cons.mpr ⟨zSX_of (s_iadd (by decide +kernel) rfl), ?_⟩
  refine List.forall_mem_cons.mpr ⟨s_sld (pc := 648) S (by decide +kernel) rfl, ?_⟩
  refine List.forall_mem_cons.mpr ⟨zSX_of (s_aload_n (j := 0) (by decide +kernel) rfl rfl), ?_⟩
  refine List.forall_mem_cons.mpr ⟨zSX_of (s_iload_n (j := 3) (by decide +kernel) rfl rfl), ?_⟩
  refine List.forall_mem_cons.mpr ⟨zSX_of (s_iconst (by decide +kernel) rfl), ?_⟩
  refine List.forall_mem_cons.mpr ⟨zSX_of (s_iadd (by decide +kernel) rfl), ?_⟩
  refine List.forall_mem_cons.mpr ⟨s_sld (pc := 653) S (by decide +kernel) rfl, ?_⟩
  refine List.forall_mem_cons.mpr ⟨zSX_of (s_aload_n (j := 0) (by decide +kernel) rfl rfl), ?_⟩
  refine List.forall_mem_cons.mpr ⟨zSX_of (s_iload_n (j := 3) (by decide +kernel) rfl rfl), ?_⟩
  refine List.forall_mem_cons.mpr ⟨zSX_of (s_iconst (by decide +kernel) rfl), ?_⟩
  refine List.forall_mem_cons.mpr ⟨zSX_of (s_iadd (by decide +kernel) rfl), ?_⟩
  refine List.forall_mem_cons.mpr ⟨s_sld (pc := 658) S (by decide +kernel) rfl, ?_⟩
  refine List.forall_mem_cons.mpr ⟨zSX_of (s_callv (idx := 66) (k' := k_X8_soon) (T := TX8) (N := 10) rfl q3_38 q3_35 q3_36 q3_37 q1_1 de_X8_soon (by decide) (by decide +kernel) rfl), ?_⟩
  refine List.forall_mem_cons.mpr ⟨zSX_of (s_aload_n (j := 2) (by decide +kernel) rfl rfl), ?_⟩
  refine List.forall_mem_cons.mpr ⟨zSX_of (s_aload_n (j := 0) (by decide +kernel) rfl rfl), ?_⟩
  refine List.forall_mem_cons.mpr ⟨zSX_of (s_iload_n (j := 3) (by decide +kernel) rfl rfl), ?_⟩
  refine List.forall_mem_cons.mpr ⟨zSX_of (s_iconst (by decide +kernel) rfl), ?_⟩
  refine List.forall_mem_cons.mpr ⟨zSX_of (s_iadd (by decide +kernel) rfl), ?_⟩
  refine List.forall_mem_cons.mpr ⟨s_sld (pc := 667) S (by decide +kernel) rfl, ?_⟩
  refine List.forall_mem_cons.mpr ⟨zSX_of (s_aload_n (j := 0) (by decide +kernel) rfl rfl), ?_⟩
  refine List.forall_mem_cons.mpr ⟨zSX_of (s_iload_n (j := 3) (by decide +kernel) rfl rfl), ?_⟩
  refine List.forall_mem_cons.mpr ⟨zSX_of (s_iconst (by decide +kernel) rfl), ?_⟩
  refine List.forall_mem_cons.mpr ⟨zSX_of (s_iadd (by decide +kernel) rfl), ?_⟩
  refine List.forall_mem_cons.mpr ⟨s_sld (pc := 672) S (by decide +kernel) rfl, ?_⟩
  refine List.forall_mem_cons.mpr ⟨zSX_of (s_aload_n (j := 0) (by decide +kernel) rfl rfl), ?_⟩
  refine List.forall_mem_cons.mpr ⟨zSX_of (s_iload_n (j := 3) (by decide +kernel) rfl rfl), ?_⟩
  refine List.forall_mem_cons.mpr ⟨zSX_of (s_iconst (by decide +kernel) rfl), ?_⟩
  refine List.forall_mem_cons.mpr ⟨zSX_of (s_iadd (by decide +kernel) rfl), ?_⟩
  refine List.forall_mem_cons.mpr ⟨s_sld (pc := 677) S (by decide +kernel) rfl, ?_⟩
  refine List.forall_mem_cons.mpr ⟨zSX_of (s_aload_n (j := 0) (by decide +kernel) rfl rfl), ?_⟩
  refine List.forall_mem_cons.mpr ⟨zSX_of (s_iload_n (j := 3) (by decide +kernel) rfl rfl), ?_⟩
  refine List.forall_mem_cons.mpr ⟨zSX_of (s_iconst (by decide +kernel) rfl), ?_⟩
  refine List.forall_mem_cons.mpr ⟨zSX_of (s_iadd (by decide +kernel) rfl), ?_⟩
  refine List.forall_mem_cons.mpr ⟨s_sld (pc := 682) S (by decide +kernel) rfl, ?_⟩
  refine List.forall_mem_cons.mpr ⟨zSX_of (s_callv (idx := 69) (k' := k_X9_soon) (T := TX9) (N := 54) rfl q5_180 q5_177 q5_178 q5_179 q1_10 de_X9_soon (by decide) (by decide +kernel) rfl), ?_⟩
  refine List.forall_mem_cons.mpr ⟨s_same (pc := 686) (off := 1040) (by decide +kernel) (by decide), ?_⟩
  refine List.forall_mem_cons.mpr ⟨zSX_of (s_iconst (by decide +kernel) rfl), ?_⟩
  refine List.forall_mem_cons.mpr ⟨zSX_of (s_zret rfl (by decide +kernel)), ?_⟩
  exact fun q hq => absurd hq List.not_mem_nil
set_option maxHeartbeats 2000000 in
/-- 12: soon -/
theorem law_12 {X : zX} {L : Nat} {sc : Nat → Int32} (S : zScr X L sc) (C : zCx X 1000 k_L_law) (E : zEx X k_L_law (fun o _ => o = some (sI 1))) {i : Int} (i0 : 0 ≤ i) (i6 : i + 6 ≤ L) (IH : ∀ h, Inv2 h → zJ X 1726 [some (sR 99), some (sR 0), some (sR 52), some (sI i)] [] h) (h : zH) (hI : Inv2 h) : zJ X 638 [some (sR 99), some (sR 0), some (sR 52), some (sI i)] [] h := by
  have hL := S.2.2.2
  refine zrunX (t_law_12 S) C E [1726] 60 _ _ _ _ ?_
  refine And.intro (by omega) (And.intro (by omega) (And.intro (by omega) (And.intro (by omega) (And.intro (by omega) (And.intro (by omega) (And.intro (by omega) (And.intro (by omega) (?_))))))))
  refine zcall_i (d' := 999) (by omega) ((Pair2_of (pr_soon (d := 999) (by omega) (i32_in _) (i32_in _) (i32_in _) (i32_in _))) h hI) ?_
  rintro _ g ⟨r, rfl, hm⟩
  refine And.intro (by omega) (And.intro (by omega) (And.intro (by omega) (And.intro (by omega) (And.intro (by omega) (And.intro (by omega) (And.intro (by omega) (And.intro (by omega) (?_))))))))
  refine zcall_i (d' := 999) (by omega) hm ?_
  rintro _ g' ⟨rfl, hI2⟩
  exact And.intro rfl (IH g' hI2)
def T_law_13 (L : Nat) (sc : Nat → Int32) : List (Nat × zO) := [(691, o_aload 692 1), (692, o_aload 693 0), (693, o_iload 694 3), (694, o_const 695 1), (695, o_iadd 696), (696, o_sld L sc 697), (697, o_aload 698 0), (698, o_iload 699 3), (699, o_const 700 2), (700, o_iadd 701), (701, o_sld L sc 702), (702, o_aload 703 0), (703, o_iload 704 3), (704, o_const 705 3), (705, o_iadd 706), (706, o_sld L sc 707), (707, o_callv 3 8 k_X8_last 710), (710, o_aload 711 2), (711, o_aload 712 0), (712, o_iload 713 3), (713, o_const 714 1), (714, o_iadd 715), (715, o_sld L sc 716), (716, o_aload 717 0), (717, o_iload 718 3), (718, o_const 719 2), (719, o_iadd 720), (720, o_sld L sc 721), (721, o_aload 722 0), (722, o_iload 723 3), (723, o_const 724 3), (724, o_iadd 725), (725, o_sld L sc 726), (726, o_callv 3 9 k_X9_last 729), (729, o_same 1726), (732, o_const 733 0), (733, o_zret)]
set_option maxRecDepth 20000 in
theorem t_law_13 {X : zX} {L : Nat} {sc : Nat → Int32} (S : zScr X L sc) : ∀ q ∈ T_law_13 L sc, zSX X k_L_law q.1 q.2 := by
  unfold T_law_13
  refine List.forall_mem_cons.mpr ⟨zSX_of (s_aload_n (j := 1) (by decide +kernel) rfl rfl), ?_⟩
  refine List.forall_mem_cons.mpr ⟨zSX_of (s_aload_n (j := 0) (by decide +kernel) rfl rfl), ?_⟩
  refine List.forall_mem_cons.mpr ⟨zSX_of (s_iload_n (j := 3) (by decide +kernel) rfl rfl), ?_⟩
  refine List.forall_mem_cons.mpr ⟨zSX_of (s_iconst (by decide +kernel) rfl), ?_⟩
  refine List.forall_mem_cons.mpr ⟨zSX_of (s_iadd (by decide +kernel) rfl), ?_⟩
  refine List.forall_mem_cons.mpr ⟨s_sld (pc := 696) S (by decide +kernel) rfl, ?_⟩
  refine List.forall_mem_cons.mpr ⟨zSX_of (s_aload_n (j := 0) (by decide +kernel) rfl rfl), ?_⟩
  refine List.forall_mem_cons.mpr ⟨zSX_of (s_iload_n (j := 3) (by decide +kernel) rfl rfl), ?_⟩
  refine List.forall_mem_cons.mpr ⟨zSX_of (s_iconst (by decide +kernel) rfl), ?_⟩
  refine List.forall_mem_cons.mpr ⟨zSX_of (s_iadd (by decide +kernel) rfl), ?_⟩
  refine List.forall_mem_cons.mpr ⟨s_sld (pc := 701) S (by decide +kernel) rfl, ?_⟩
  refine List.forall_mem_cons.mpr ⟨zSX_of (s_aload_n (j := 0) (by decide +kernel) rfl rfl), ?_⟩
  refine List.forall_mem_cons.mpr ⟨zSX_of (s_iload_n (j := 3) (by decide +kernel) rfl rfl), ?_⟩
  refine List.forall_mem_cons.mpr ⟨zSX_of (s_iconst (by decide +kernel) rfl), ?_⟩
  refine List.forall_mem_cons.mpr ⟨zSX_of (s_iadd (by decide +kernel) rfl), ?_⟩
  refine List.forall_mem_cons.mpr ⟨s_sld (pc := 706) S (by decide +kernel) rfl, ?_⟩
  refine List.forall_mem_cons.mpr ⟨zSX_of (s_callv (idx := 70) (k' := k_X8_last) (T := TX8) (N := 10) rfl q3_77 q3_74 q3_75 q3_76 q1_1 de_X8_last (by decide) (by decide +kernel) rfl), ?_⟩
  refine List.forall_mem_cons.mpr ⟨zSX_of (s_aload_n (j := 2) (by decide +kernel) rfl rfl), ?_⟩
  refine List.forall_mem_cons.mpr ⟨zSX_of (s_aload_n (j := 0) (by decide +kernel) rfl rfl), ?_⟩
  refine List.forall_mem_cons.mpr ⟨zSX_of (s_iload_n (j := 3) (by decide +kernel) rfl rfl), ?_⟩
  refine List.forall_mem_cons.mpr ⟨zSX_of (s_iconst (by decide +kernel) rfl), ?_⟩
  refine List.forall_mem_cons.mpr ⟨zSX_of (s_iadd (by decide +kernel) rfl), ?_⟩
  refine List.forall_mem_cons.mpr ⟨s_sld (pc := 715) S (by decide +kernel) rfl, ?_⟩
  refine List.forall_mem_cons.mpr ⟨zSX_of (s_aload_n (j := 0) (by decide +kernel) rfl rfl), ?_⟩
  refine List.forall_mem_cons.mpr ⟨zSX_of (s_iload_n (j := 3) (by decide +kernel) rfl rfl), ?_⟩
  refine List.forall_mem_cons.mpr ⟨zSX_of (s_iconst (by decide +kernel) rfl), ?_⟩
  refine List.forall_mem_cons.mpr ⟨zSX_of (s_iadd (by decide +kernel) rfl), ?_⟩
  refine List.forall_mem_cons.mpr ⟨s_sld (pc := 720) S (by decide +kernel) rfl, ?_⟩
  refine List.forall_mem_cons.mpr ⟨zSX_of (s_aload_n (j := 0) (by decide +kernel) rfl rfl), ?_⟩
  refine List.forall_mem_cons.mpr ⟨zSX_of (s_iload_n (j := 3) (by decide +kernel) rfl rfl), ?_⟩
  refine List.forall_mem_cons.mpr ⟨zSX_of (s_iconst (by decide +kernel) rfl), ?_⟩
  refine List.forall_mem_cons.mpr ⟨zSX_of (s_iadd (by decide +kernel) rfl), ?_⟩
  refine List.forall_mem_cons.mpr ⟨s_sld (pc := 725) S (by decide +kernel) rfl, ?_⟩
  refine List.forall_mem_cons.mpr ⟨zSX_of (s_callv (idx := 73) (k' := k_X9_last) (T := TX9) (N := 54) rfl q5_215 q5_212 q5_213 q5_214 q1_10 de_X9_last (by decide) (by decide +kernel) rfl), ?_⟩
  refine List.forall_mem_cons.mpr ⟨s_same (pc := 729) (off := 997) (by decide +kernel) (by decide), ?_⟩
  refine List.forall_mem_cons.mpr ⟨zSX_of (s_iconst (by decide +kernel) rfl), ?_⟩
  refine List.forall_mem_cons.mpr ⟨zSX_of (s_zret rfl (by decide +kernel)), ?_⟩
  exact fun q hq => absurd hq List.not_mem_nil
set_option maxHeartbeats 2000000 in
/-- 13: last -/
theorem law_13 {X : zX} {L : Nat} {sc : Nat → Int32} (S : zScr X L sc) (C : zCx X 1000 k_L_law) (E : zEx X k_L_law (fun o _ => o = some (sI 1))) {i : Int} (i0 : 0 ≤ i) (i6 : i + 6 ≤ L) (IH : ∀ h, Inv2 h → zJ X 1726 [some (sR 99), some (sR 0), some (sR 52), some (sI i)] [] h) (h : zH) (hI : Inv2 h) : zJ X 691 [some (sR 99), some (sR 0), some (sR 52), some (sI i)] [] h := by
  have hL := S.2.2.2
  refine zrunX (t_law_13 S) C E [1726] 60 _ _ _ _ ?_
  refine And.intro (by omega) (And.intro (by omega) (And.intro (by omega) (And.intro (by omega) (And.intro (by omega) (And.intro (by omega) (?_))))))
  refine zcall_i (d' := 999) (by omega) ((Pair2_of (pr_last (d := 999) (by omega) (i32_in _) (i32_in _) (i32_in _))) h hI) ?_
  rintro _ g ⟨r, rfl, hm⟩
  refine And.intro (by omega) (And.intro (by omega) (And.intro (by omega) (And.intro (by omega) (And.intro (by omega) (And.intro (by omega) (?_))))))
  refine zcall_i (d' := 999) (by omega) hm ?_
  rintro _ g' ⟨rfl, hI2⟩
  exact And.intro rfl (IH g' hI2)
def T_law_14 (L : Nat) (sc : Nat → Int32) : List (Nat × zO) := [(734, o_aload 735 1), (735, o_aload 736 0), (736, o_iload 737 3), (737, o_const 738 1), (738, o_iadd 739), (739, o_sld L sc 740), (740, o_aload 741 0), (741, o_iload 742 3), (742, o_const 743 2), (743, o_iadd 744), (744, o_sld L sc 745), (745, o_aload 746 0), (746, o_iload 747 3), (747, o_const 748 3), (748, o_iadd 749), (749, o_sld L sc 750), (750, o_aload 751 0), (751, o_iload 752 3), (752, o_const 753 4), (753, o_iadd 754), (754, o_sld L sc 755), (755, o_callv 4 8 k_X8_best 758), (758, o_aload 759 2), (759, o_aload 760 0), (760, o_iload 761 3), (761, o_const 762 1), (762, o_iadd 763), (763, o_sld L sc 764), (764, o_aload 765 0), (765, o_iload 766 3), (766, o_const 767 2), (767, o_iadd 768), (768, o_sld L sc 769), (769, o_aload 770 0), (770, o_iload 771 3), (771, o_const 772 3), (772, o_iadd 773), (773, o_sld L sc 774), (774, o_aload 775 0), (775, o_iload 776 3), (776, o_const 777 4), (777, o_iadd 778), (778, o_sld L sc 779), (779, o_callv 4 9 k_X9_best 782), (782, o_same 1726), (785, o_const 786 0), (786, o_zret)]
set_option maxRecDepth 20000 in
theorem t_law_14 {X : zX} {L : Nat} {sc : Nat → Int32} (S : zScr X L sc) : ∀ q ∈ T_law_14 L sc, zSX X k_L_law q.1 q.2 := by
  unfold T_law_14
  refine List.forall_mem_cons.mpr ⟨zSX_of (s_aload_n (j := 1) (by decide +kernel) rfl rfl), ?_⟩
  refine List.forall_mem_cons.mpr ⟨zSX_of (s_aload_n (j := 0) (by decide +kernel) rfl rfl), ?_⟩
  refine List.forall_mem_cons.mpr ⟨zSX_of (s_iload_n (j := 3) (by decide +kernel) rfl rfl), ?_⟩
  refine List.forall_mem_cons.mpr ⟨zSX_of (s_iconst (by decide +kernel) rfl), ?_⟩
  refine List.forall_mem_cons.mpr ⟨zSX_of (s_iadd (by decide +kernel) rfl), ?_⟩
  refine List.forall_mem_cons.mpr ⟨s_sld (pc := 739) S (by decide +kernel) rfl, ?_⟩
  refine List.forall_mem_cons.mpr ⟨zSX_of (s_aload_n (j := 0) (by decide +kernel) rfl rfl), ?_⟩
  refine List.forall_mem_cons.mpr ⟨zSX_of (s_iload_n (j := 3) (by decide +kernel) rfl rfl), ?_⟩
  refine List.forall_mem_cons.mpr ⟨zSX_of (s_iconst (by decide +kernel) rfl), ?_⟩
  refine List.forall_mem_cons.mpr ⟨zSX_of (s_iadd (by decide +kernel) rfl), ?_⟩
  refine List.forall_mem_cons.mpr ⟨s_sld (pc := 744) S (by decide +kernel) rfl, ?_⟩
  refine List.forall_mem_cons.mpr ⟨zSX_of (s_aload_n (j := 0) (by decide +kernel) rfl rfl), ?_⟩
  refine List.forall_mem_cons.mpr ⟨zSX_of (s_iload_n (j := 3) (by decide +kernel) rfl rfl), ?_⟩
  refine List.forall_mem_cons.mpr ⟨zSX_of (s_iconst (by decide +kernel) rfl), ?_⟩
  refine List.forall_mem_cons.mpr ⟨zSX_of (s_iadd (by decide +kernel) rfl), ?_⟩
  refine List.forall_mem_cons.mpr ⟨s_sld (pc := 749) S (by decide +kernel) rfl, ?_⟩
  refine List.forall_mem_cons.mpr ⟨zSX_of (s_aload_n (j := 0) (by decide +kernel) rfl rfl), ?_⟩
  refine List.forall_mem_cons.mpr ⟨zSX_of (s_iload_n (j := 3) (by decide +kernel) rfl rfl), ?_⟩
  refine List.forall_mem_cons.mpr ⟨zSX_of (s_iconst (by decide +kernel) rfl), ?_⟩
  refine List.forall_mem_cons.mpr ⟨zSX_of (s_iadd (by decide +kernel) rfl), ?_⟩
  refine List.forall_mem_cons.mpr ⟨s_sld (pc := 754) S (by decide +kernel) rfl, ?_⟩
  refine List.forall_mem_cons.mpr ⟨zSX_of (s_callv (idx := 74) (k' := k_X8_best) (T := TX8) (N := 10) rfl q3_89 q3_86 q3_87 q3_88 q1_1 de_X8_best (by decide) (by decide +kernel) rfl), ?_⟩
  refine List.forall_mem_cons.mpr ⟨zSX_of (s_aload_n (j := 2) (by decide +kernel) rfl rfl), ?_⟩
  refine List.forall_mem_cons.mpr ⟨zSX_of (s_aload_n (j := 0) (by decide +kernel) rfl rfl), ?_⟩
  refine List.forall_mem_cons.mpr ⟨zSX_of (s_iload_n (j := 3) (by decide +kernel) rfl rfl), ?_⟩
  refine List.forall_mem_cons.mpr ⟨zSX_of (s_iconst (by decide +kernel) rfl), ?_⟩
  refine List.forall_mem_cons.mpr ⟨zSX_of (s_iadd (by decide +kernel) rfl), ?_⟩
  refine List.forall_mem_cons.mpr ⟨s_sld (pc := 763) S (by decide +kernel) rfl, ?_⟩
  refine List.forall_mem_cons.mpr ⟨zSX_of (s_aload_n (j := 0) (by decide +kernel) rfl rfl), ?_⟩
  refine List.forall_mem_cons.mpr ⟨zSX_of (s_iload_n (j := 3) (by decide +kernel) rfl rfl), ?_⟩
  refine List.forall_mem_cons.mpr ⟨zSX_of (s_iconst (by decide +kernel) rfl), ?_⟩
  refine List.forall_mem_cons.mpr ⟨zSX_of (s_iadd (by decide +kernel) rfl), ?_⟩
  refine List.forall_mem_cons.mpr ⟨s_sld (pc := 768) S (by decide +kernel) rfl, ?_⟩
  refine List.forall_mem_cons.mpr ⟨zSX_of (s_aload_n (j := 0) (by decide +kernel) rfl rfl), ?_⟩
  refine List.forall_mem_cons.mpr ⟨zSX_of (s_iload_n (j := 3) (by decide +kernel) rfl rfl), ?_⟩
  refine List.forall_mem_cons.mpr ⟨zSX_of (s_iconst (by decide +kernel) rfl), ?_⟩
  refine List.forall_mem_cons.mpr ⟨zSX_of (s_iadd (by decide +kernel) rfl), ?_⟩
  refine List.forall_mem_cons.mpr ⟨s_sld (pc := 773) S (by decide +kernel) rfl, ?_⟩
  refine List.forall_mem_cons.mpr ⟨zSX_of (s_aload_n (j := 0) (by decide +kernel) rfl rfl), ?_⟩
  refine List.forall_mem_cons.mpr ⟨zSX_of (s_iload_n (j := 3) (by decide +kernel) rfl rfl), ?_⟩
  refine List.forall_mem_cons.mpr ⟨zSX_of (s_iconst (by decide +kernel) rfl), ?_⟩
  refine List.forall_mem_cons.mpr ⟨zSX_of (s_iadd (by decide +kernel) rfl), ?_⟩
  refine List.forall_mem_cons.mpr ⟨s_sld (pc := 778) S (by decide +kernel) rfl, ?_⟩
  refine List.forall_mem_cons.mpr ⟨zSX_of (s_callv (idx := 77) (k' := k_X9_best) (T := TX9) (N := 54) rfl q5_231 q5_228 q5_229 q5_230 q1_10 de_X9_best (by decide) (by decide +kernel) rfl), ?_⟩
  refine List.forall_mem_cons.mpr ⟨s_same (pc := 782) (off := 944) (by decide +kernel) (by decide), ?_⟩
  refine List.forall_mem_cons.mpr ⟨zSX_of (s_iconst (by decide +kernel) rfl), ?_⟩
  refine List.forall_mem_cons.mpr ⟨zSX_of (s_zret rfl (by decide +kernel)), ?_⟩
  exact fun q hq => absurd hq List.not_mem_nil
set_option maxHeartbeats 2000000 in
/-- 14: best -/
theorem law_14 {X : zX} {L : Nat} {sc : Nat → Int32} (S : zScr X L sc) (C : zCx X 1000 k_L_law) (E : zEx X k_L_law (fun o _ => o = some (sI 1))) {i : Int} (i0 : 0 ≤ i) (i6 : i + 6 ≤ L) (IH : ∀ h, Inv2 h → zJ X 1726 [some (sR 99), some (sR 0), some (sR 52), some (sI i)] [] h) (h : zH) (hI : Inv2 h) : zJ X 734 [some (sR 99), some (sR 0), some (sR 52), some (sI i)] [] h := by
  have hL := S.2.2.2
  refine zrunX (t_law_14 S) C E [1726] 60 _ _ _ _ ?_
  refine And.intro (by omega) (And.intro (by omega) (And.intro (by omega) (And.intro (by omega) (And.intro (by omega) (And.intro (by omega) (And.intro (by omega) (And.intro (by omega) (?_))))))))
  refine zcall_i (d' := 999) (by omega) ((pr_best (d := 999) (by omega) (i32_in _) (i32_in _) (i32_in _) (i32_in _)) h hI) ?_
  rintro _ g ⟨r, rfl, hm⟩
  refine And.intro (by omega) (And.intro (by omega) (And.intro (by omega) (And.intro (by omega) (And.intro (by omega) (And.intro (by omega) (And.intro (by omega) (And.intro (by omega) (?_))))))))
  refine zcall_i (d' := 999) (by omega) hm ?_
  rintro _ g' ⟨rfl, hI2⟩
  exact And.intro rfl (IH g' hI2)
def T_law_15 (L : Nat) (sc : Nat → Int32) : List (Nat × zO) := [(787, o_aload 788 1), (788, o_aload 789 0), (789, o_iload 790 3), (790, o_const 791 1), (791, o_iadd 792), (792, o_sld L sc 793), (793, o_aload 794 0), (794, o_iload 795 3), (795, o_const 796 2), (796, o_iadd 797), (797, o_sld L sc 798), (798, o_aload 799 0), (799, o_iload 800 3), (800, o_const 801 3), (801, o_iadd 802), (802, o_sld L sc 803), (803, o_callv 3 8 k_X8_days 806), (806, o_aload 807 2), (807, o_aload 808 0), (808, o_iload 809 3), (809, o_const 810 1), (810, o_iadd 811), (811, o_sld L sc 812), (812, o_aload 813 0), (813, o_iload 814 3), (814, o_const 815 2), (815, o_iadd 816), (816, o_sld L sc 817), (817, o_aload 818 0), (818, o_iload 819 3), (819, o_const 820 3), (820, o_iadd 821), (821, o_sld L sc 822), (822, o_callv 3 9 k_X9_days 825), (825, o_same 1726), (828, o_const 829 0), (829, o_zret)]
set_option maxRecDepth 20000 in
theorem t_law_15 {X : zX} {L : Nat} {sc : Nat → Int32} (S : zScr X L sc) : ∀ q ∈ T_law_15 L sc, zSX X k_L_law q.1 q.2 := by
  unfold T_law_15
  refine List.forall_mem_cons.mpr ⟨zSX_of (s_aload_n (j := 1) (by decide +kernel) rfl rfl), ?_⟩
  refine List.forall_mem_cons.mpr ⟨zSX_of (s_aload_n (j := 0) (by decide +kernel) rfl rfl), ?_⟩
  refine List.forall_mem_cons.mpr ⟨zSX_of (s_iload_n (j := 3) (by decide +kernel) rfl rfl), ?_⟩
  refine List.forall_mem_cons.mpr ⟨zSX_of (s_iconst (by decide +kernel) rfl), ?_⟩
  refine List.forall_mem_cons.mpr ⟨zSX_of (s_iadd (by decide +kernel) rfl), ?_⟩
  refine List.forall_mem_cons.mpr ⟨s_sld (pc := 792) S (by decide +kernel) rfl, ?_⟩
  refine List.forall_mem_cons.mpr ⟨zSX_of (s_aload_n (j := 0) (by decide +kernel) rfl rfl), ?_⟩
  refine List.forall_mem_cons.mpr ⟨zSX_of (s_iload_n (j := 3) (by decide +kernel) rfl rfl), ?_⟩
  refine List.forall_mem_cons.mpr ⟨zSX_of (s_iconst (by decide +kernel) rfl), ?_⟩
  refine List.forall_mem_cons.mpr ⟨zSX_of (s_iadd (by decide +kernel) rfl), ?_⟩
  refine List.forall_mem_cons.mpr ⟨s_sld (pc := 797) S (by decide +kernel) rfl, ?_⟩
  refine List.forall_mem_cons.mpr ⟨zSX_of (s_aload_n (j := 0) (by decide +kernel) rfl rfl), ?_⟩
  refine List.forall_mem_cons.mpr ⟨zSX_of (s_iload_n (j := 3) (by decide +kernel) rfl rfl), ?_⟩
  refine List.forall_mem_cons.mpr ⟨zSX_of (s_iconst (by decide +kernel) rfl), ?_⟩
  refine List.forall_mem_cons.mpr ⟨zSX_of (s_iadd (by decide +kernel) rfl), ?_⟩
  refine List.forall_mem_cons.mpr ⟨s_sld (pc := 802) S (by decide +kernel) rfl, ?_⟩
  refine List.forall_mem_cons.mpr ⟨zSX_of (s_callv (idx := 78) (k' := k_X8_days) (T := TX8) (N := 10) rfl q3_115 q3_112 q3_113 q3_114 q1_1 de_X8_days (by decide) (by decide +kernel) rfl), ?_⟩
  refine List.forall_mem_cons.mpr ⟨zSX_of (s_aload_n (j := 2) (by decide +kernel) rfl rfl), ?_⟩
  refine List.forall_mem_cons.mpr ⟨zSX_of (s_aload_n (j := 0) (by decide +kernel) rfl rfl), ?_⟩
  refine List.forall_mem_cons.mpr ⟨zSX_of (s_iload_n (j := 3) (by decide +kernel) rfl rfl), ?_⟩
  refine List.forall_mem_cons.mpr ⟨zSX_of (s_iconst (by decide +kernel) rfl), ?_⟩
  refine List.forall_mem_cons.mpr ⟨zSX_of (s_iadd (by decide +kernel) rfl), ?_⟩
  refine List.forall_mem_cons.mpr ⟨s_sld (pc := 811) S (by decide +kernel) rfl, ?_⟩
  refine List.forall_mem_cons.mpr ⟨zSX_of (s_aload_n (j := 0) (by decide +kernel) rfl rfl), ?_⟩
  refine List.forall_mem_cons.mpr ⟨zSX_of (s_iload_n (j := 3) (by decide +kernel) rfl rfl), ?_⟩
  refine List.forall_mem_cons.mpr ⟨zSX_of (s_iconst (by decide +kernel) rfl), ?_⟩
  refine List.forall_mem_cons.mpr ⟨zSX_of (s_iadd (by decide +kernel) rfl), ?_⟩
  refine List.forall_mem_cons.mpr ⟨s_sld (pc := 816) S (by decide +kernel) rfl, ?_⟩
  refine List.forall_mem_cons.mpr ⟨zSX_of (s_aload_n (j := 0) (by decide +kernel) rfl rfl), ?_⟩
  refine List.forall_mem_cons.mpr ⟨zSX_of (s_iload_n (j := 3) (by decide +kernel) rfl rfl), ?_⟩
  refine List.forall_mem_cons.mpr ⟨zSX_of (s_iconst (by decide +kernel) rfl), ?_⟩
  refine List.forall_mem_cons.mpr ⟨zSX_of (s_iadd (by decide +kernel) rfl), ?_⟩
  refine List.forall_mem_cons.mpr ⟨s_sld (pc := 821) S (by decide +kernel) rfl, ?_⟩
  refine List.forall_mem_cons.mpr ⟨zSX_of (s_callv (idx := 81) (k' := k_X9_days) (T := TX9) (N := 54) rfl q6_7 q6_4 q6_5 q6_6 q1_10 de_X9_days (by decide) (by decide +kernel) rfl), ?_⟩
  refine List.forall_mem_cons.mpr ⟨s_same (pc := 825) (off := 901) (by decide +kernel) (by decide), ?_⟩
  refine List.forall_mem_cons.mpr ⟨zSX_of (s_iconst (by decide +kernel) rfl), ?_⟩
  refine List.forall_mem_cons.mpr ⟨zSX_of (s_zret rfl (by decide +kernel)), ?_⟩
  exact fun q hq => absurd hq List.not_mem_nil
set_option maxHeartbeats 2000000 in
/-- 15: days -/
theorem law_15 {X : zX} {L : Nat} {sc : Nat → Int32} (S : zScr X L sc) (C : zCx X 1000 k_L_law) (E : zEx X k_L_law (fun o _ => o = some (sI 1))) {i : Int} (i0 : 0 ≤ i) (i6 : i + 6 ≤ L) (IH : ∀ h, Inv2 h → zJ X 1726 [some (sR 99), some (sR 0), some (sR 52), some (sI i)] [] h) (h : zH) (hI : Inv2 h) : zJ X 787 [some (sR 99), some (sR 0), some (sR 52), some (sI i)] [] h := by
  have hL := S.2.2.2
  refine zrunX (t_law_15 S) C E [1726] 60 _ _ _ _ ?_
  refine And.intro (by omega) (And.intro (by omega) (And.intro (by omega) (And.intro (by omega) (And.intro (by omega) (And.intro (by omega) (?_))))))
  refine zcall_i (d' := 999) (by omega) ((pr_days (d := 999) (by omega) (i32_in _) (i32_in _) (i32_in _)) h hI) ?_
  rintro _ g ⟨r, rfl, hm⟩
  refine And.intro (by omega) (And.intro (by omega) (And.intro (by omega) (And.intro (by omega) (And.intro (by omega) (And.intro (by omega) (?_))))))
  refine zcall_i (d' := 999) (by omega) hm ?_
  rintro _ g' ⟨rfl, hI2⟩
  exact And.intro rfl (IH g' hI2)
def T_law_16 (L : Nat) (sc : Nat → Int32) : List (Nat × zO) := [(830, o_aload 831 1), (831, o_aload 832 0), (832, o_iload 833 3), (833, o_const 834 1), (834, o_iadd 835), (835, o_sld L sc 836), (836, o_aload 837 0), (837, o_iload 838 3), (838, o_const 839 2), (839, o_iadd 840), (840, o_sld L sc 841), (841, o_aload 842 0), (842, o_iload 843 3), (843, o_const 844 3), (844, o_iadd 845), (845, o_sld L sc 846), (846, o_aload 847 0), (847, o_iload 848 3), (848, o_const 849 4), (849, o_iadd 850), (850, o_sld L sc 851), (851, o_aload 852 0), (852, o_iload 853 3), (853, o_const 854 5), (854, o_iadd 855), (855, o_sld L sc 856), (856, o_callv 5 8 k_X8_two 859), (859, o_aload 860 2), (860, o_aload 861 0), (861, o_iload 862 3), (862, o_const 863 1), (863, o_iadd 864), (864, o_sld L sc 865), (865, o_aload 866 0), (866, o_iload 867 3), (867, o_const 868 2), (868, o_iadd 869), (869, o_sld L sc 870), (870, o_aload 871 0), (871, o_iload 872 3), (872, o_const 873 3), (873, o_iadd 874), (874, o_sld L sc 875), (875, o_aload 876 0), (876, o_iload 877 3), (877, o_const 878 4), (878, o_iadd 879), (879, o_sld L sc 880), (880, o_aload 881 0), (881, o_iload 882 3), (882, o_const 883 5), (883, o_iadd 884), (884, o_sld L sc 885), (885, o_callv 5 9 k_X9_two 888), (888, o_same 1726), (891, o_const 892 0), (892, o_zret)]
set_option maxRecDepth 20000 in
theorem t_law_16 {X : zX} {L : Nat} {sc : Nat → Int32} (S : zScr X L sc) : ∀ q ∈ T_law_16 L sc, zSX X k_L_law q.1 q.2 := by
  unfold T_law_16
  refine List.forall_mem_cons.mpr ⟨zSX_of (s_aload_n (j := 1) (by decide +kernel) rfl rfl), ?_⟩
  refine List.forall_mem_cons.mpr ⟨zSX_of (s_aload_n (j := 0) (by decide +kernel) rfl rfl), ?_⟩
  refine List.forall_mem_cons.mpr ⟨zSX_of (s_iload_n (j := 3) (by decide +kernel) rfl rfl), ?_⟩
  refine List.forall_mem_cons.mpr ⟨zSX_of (s_iconst (by decide +kernel) rfl), ?_⟩
  refine List.forall_mem_cons.mpr ⟨zSX_of (s_iadd (by decide +kernel) rfl), ?_⟩
  refine List.forall_mem_cons.mpr ⟨s_sld (pc := 835) S (by decide +kernel) rfl, ?_⟩
  refine List.forall_mem_cons.mpr ⟨zSX_of (s_aload_n (j := 0) (by decide +kernel) rfl rfl), ?_⟩
  refine List.forall_mem_cons.mpr ⟨zSX_of (s_iload_n (j := 3) (by decide +kernel) rfl rfl), ?_⟩
  refine List.forall_mem_cons.mpr ⟨zSX_of (s_iconst (by decide +kernel) rfl), ?_⟩
  refine List.forall_mem_cons.mpr ⟨zSX_of (s_iadd (by decide +kernel) rfl), ?_⟩
  refine List.forall_mem_cons.mpr ⟨s_sld (pc := 840) S (by decide +kernel) rfl, ?_⟩
  refine List.forall_mem_cons.mpr ⟨zSX_of (s_aload_n (j := 0) (by decide +kernel) rfl rfl), ?_⟩
  refine List.forall_mem_cons.mpr ⟨zSX_of (s_iload_n (j := 3) (by decide +kernel) rfl rfl), ?_⟩
  refine List.forall_mem_cons.mpr ⟨zSX_of (s_iconst (by decide +kernel) rfl), ?_⟩
  refine List.forall_mem_cons.mpr ⟨zSX_of (s_iadd (by decide +kernel) rfl), ?_⟩
  refine List.forall_mem_cons.mpr ⟨s_sld (pc := 845) S (by decide +kernel) rfl, ?_⟩
  refine List.forall_mem_cons.mpr ⟨zSX_of (s_aload_n (j := 0) (by decide +kernel) rfl rfl), ?_⟩
  refine List.forall_mem_cons.mpr ⟨zSX_of (s_iload_n (j := 3) (by decide +kernel) rfl rfl), ?_⟩
  refine List.forall_mem_cons.mpr ⟨zSX_of (s_iconst (by decide +kernel) rfl), ?_⟩
  refine List.forall_mem_cons.mpr ⟨zSX_of (s_iadd (by decide +kernel) rfl), ?_⟩
  refine List.forall_mem_cons.mpr ⟨s_sld (pc := 850) S (by decide +kernel) rfl, ?_⟩
  refine List.forall_mem_cons.mpr ⟨zSX_of (s_aload_n (j := 0) (by decide +kernel) rfl rfl), ?_⟩
  refine List.forall_mem_cons.mpr ⟨zSX_of (s_iload_n (j := 3) (by decide +kernel) rfl rfl), ?_⟩
  refine List.forall_mem_cons.mpr ⟨zSX_of (s_iconst (by decide +kernel) rfl), ?_⟩
  refine List.forall_mem_cons.mpr ⟨zSX_of (s_iadd (by decide +kernel) rfl), ?_⟩
  refine List.forall_mem_cons.mpr ⟨s_sld (pc := 855) S (by decide +kernel) rfl, ?_⟩
  refine List.forall_mem_cons.mpr ⟨zSX_of (s_callv (idx := 82) (k' := k_X8_two) (T := TX8) (N := 10) rfl q3_119 q3_116 q3_117 q3_118 q1_1 de_X8_two (by decide) (by decide +kernel) rfl), ?_⟩
  refine List.forall_mem_cons.mpr ⟨zSX_of (s_aload_n (j := 2) (by decide +kernel) rfl rfl), ?_⟩
  refine List.forall_mem_cons.mpr ⟨zSX_of (s_aload_n (j := 0) (by decide +kernel) rfl rfl), ?_⟩
  refine List.forall_mem_cons.mpr ⟨zSX_of (s_iload_n (j := 3) (by decide +kernel) rfl rfl), ?_⟩
  refine List.forall_mem_cons.mpr ⟨zSX_of (s_iconst (by decide +kernel) rfl), ?_⟩
  refine List.forall_mem_cons.mpr ⟨zSX_of (s_iadd (by decide +kernel) rfl), ?_⟩
  refine List.forall_mem_cons.mpr ⟨s_sld (pc := 864) S (by decide +kernel) rfl, ?_⟩
  refine List.forall_mem_cons.mpr ⟨zSX_of (s_aload_n (j := 0) (by decide +kernel) rfl rfl), ?_⟩
  refine List.forall_mem_cons.mpr ⟨zSX_of (s_iload_n (j := 3) (by decide +kernel) rfl rfl), ?_⟩
  refine List.forall_mem_cons.mpr ⟨zSX_of (s_iconst (by decide +kernel) rfl), ?_⟩
  refine List.forall_mem_cons.mpr ⟨zSX_of (s_iadd (by decide +kernel) rfl), ?_⟩
  refine List.forall_mem_cons.mpr ⟨s_sld (pc := 869) S (by decide +kernel) rfl, ?_⟩
  refine List.forall_mem_cons.mpr ⟨zSX_of (s_aload_n (j := 0) (by decide +kernel) rfl rfl), ?_⟩
  refine List.forall_mem_cons.mpr ⟨zSX_of (s_iload_n (j := 3) (by decide +kernel) rfl rfl), ?_⟩
  refine List.forall_mem_cons.mpr ⟨zSX_of (s_iconst (by decide +kernel) rfl), ?_⟩
  refine List.forall_mem_cons.mpr ⟨zSX_of (s_iadd (by decide +kernel) rfl), ?_⟩
  refine List.forall_mem_cons.mpr ⟨s_sld (pc := 874) S (by decide +kernel) rfl, ?_⟩
  refine List.forall_mem_cons.mpr ⟨zSX_of (s_aload_n (j := 0) (by decide +kernel) rfl rfl), ?_⟩
  refine List.forall_mem_cons.mpr ⟨zSX_of (s_iload_n (j := 3) (by decide +kernel) rfl rfl), ?_⟩
  refine List.forall_mem_cons.mpr ⟨zSX_of (s_iconst (by decide +kernel) rfl), ?_⟩
  refine List.forall_mem_cons.mpr ⟨zSX_of (s_iadd (by decide +kernel) rfl), ?_⟩
  refine List.forall_mem_cons.mpr ⟨s_sld (pc := 879) S (by decide +kernel) rfl, ?_⟩
  refine List.forall_mem_cons.mpr ⟨zSX_of (s_aload_n (j := 0) (by decide +kernel) rfl rfl), ?_⟩
  refine List.forall_mem_cons.mpr ⟨zSX_of (s_iload_n (j := 3) (by decide +kernel) rfl rfl), ?_⟩
  refine List.forall_mem_cons.mpr ⟨zSX_of (s_iconst (by decide +kernel) rfl), ?_⟩
  refine List.forall_mem_cons.mpr ⟨zSX_of (s_iadd (by decide +kernel) rfl), ?_⟩
  refine List.forall_mem_cons.mpr ⟨s_sld (pc := 884) S (by decide +kernel) rfl, ?_⟩
  refine List.forall_mem_cons.mpr ⟨zSX_of (s_callv (idx := 86) (k' := k_X9_two) (T := TX9) (N := 54) rfl q6_11 q6_8 q6_9 q6_10 q1_10 de_X9_two (by decide) (by decide +kernel) rfl), ?_⟩
  refine List.forall_mem_cons.mpr ⟨s_same (pc := 888) (off := 838) (by decide +kernel) (by decide), ?_⟩
  refine List.forall_mem_cons.mpr ⟨zSX_of (s_iconst (by decide +kernel) rfl), ?_⟩
  refine List.forall_mem_cons.mpr ⟨zSX_of (s_zret rfl (by decide +kernel)), ?_⟩
  exact fun q hq => absurd hq List.not_mem_nil
set_option maxHeartbeats 2000000 in
/-- 16: two -/
theorem law_16 {X : zX} {L : Nat} {sc : Nat → Int32} (S : zScr X L sc) (C : zCx X 1000 k_L_law) (E : zEx X k_L_law (fun o _ => o = some (sI 1))) {i : Int} (i0 : 0 ≤ i) (i6 : i + 6 ≤ L) (IH : ∀ h, Inv2 h → zJ X 1726 [some (sR 99), some (sR 0), some (sR 52), some (sI i)] [] h) (h : zH) (hI : Inv2 h) : zJ X 830 [some (sR 99), some (sR 0), some (sR 52), some (sI i)] [] h := by
  have hL := S.2.2.2
  refine zrunX (t_law_16 S) C E [1726] 60 _ _ _ _ ?_
  refine And.intro (by omega) (And.intro (by omega) (And.intro (by omega) (And.intro (by omega) (And.intro (by omega) (And.intro (by omega) (And.intro (by omega) (And.intro (by omega) (And.intro (by omega) (And.intro (by omega) (?_))))))))))
  refine zcall_i (d' := 999) (by omega) ((pr_two (d := 999) (by omega) (i32_in _) (i32_in _) (i32_in _) (i32_in _) (i32_in _)) h hI) ?_
  rintro _ g ⟨r, rfl, hm⟩
  refine And.intro (by omega) (And.intro (by omega) (And.intro (by omega) (And.intro (by omega) (And.intro (by omega) (And.intro (by omega) (And.intro (by omega) (And.intro (by omega) (And.intro (by omega) (And.intro (by omega) (?_))))))))))
  refine zcall_i (d' := 999) (by omega) hm ?_
  rintro _ g' ⟨rfl, hI2⟩
  exact And.intro rfl (IH g' hI2)
def T_law_17 (L : Nat) (sc : Nat → Int32) : List (Nat × zO) := [(893, o_aload 894 1), (894, o_aload 895 0), (895, o_iload 896 3), (896, o_const 897 1), (897, o_iadd 898), (898, o_sld L sc 899), (899, o_aload 900 0), (900, o_iload 901 3), (901, o_const 902 2), (902, o_iadd 903), (903, o_sld L sc 904), (904, o_aload 905 0), (905, o_iload 906 3), (906, o_const 907 3), (907, o_iadd 908), (908, o_sld L sc 909), (909, o_aload 910 0), (910, o_iload 911 3), (911, o_const 912 4), (912, o_iadd 913), (913, o_sld L sc 914), (914, o_callv 4 8 k_X8_worth 917), (917, o_aload 918 2), (918, o_aload 919 0), (919, o_iload 920 3), (920, o_const 921 1), (921, o_iadd 922), (922, o_sld L sc 923), (923, o_aload 924 0), (924, o_iload 925 3), (925, o_const 926 2), (926, o_iadd 927), (927, o_sld L sc 928), (928, o_aload 929 0), (929, o_iload 930 3), (930, o_const 931 3), (931, o_iadd 932), (932, o_sld L sc 933), (933, o_aload 934 0), (934, o_iload 935 3), (935, o_const 936 4), (936, o_iadd 937), (937, o_sld L sc 938), (938, o_callv 4 9 k_X9_worth 941), (941, o_same 1726), (944, o_const 945 0), (945, o_zret)]
set_option maxRecDepth 20000 in
theorem t_law_17 {X : zX} {L : Nat} {sc : Nat → Int32} (S : zScr X L sc) : ∀ q ∈ T_law_17 L sc, zSX X k_L_law q.1 q.2 := by
  unfold T_law_17
  refine List.forall_mem_cons.mpr ⟨zSX_of (s_aload_n (j := 1) (by decide +kernel) rfl rfl), ?_⟩
  refine List.forall_mem_cons.mpr ⟨zSX_of (s_aload_n (j := 0) (by decide +kernel) rfl rfl), ?_⟩
  refine List.forall_mem_cons.mpr ⟨zSX_of (s_iload_n (j := 3) (by decide +kernel) rfl rfl), ?_⟩
  refine List.forall_mem_cons.mpr ⟨zSX_of (s_iconst (by decide +kernel) rfl), ?_⟩
  refine List.forall_mem_cons.mpr ⟨zSX_of (s_iadd (by decide +kernel) rfl), ?_⟩
  refine List.forall_mem_cons.mpr ⟨s_sld (pc := 898) S (by decide +kernel) rfl, ?_⟩
  refine List.forall_mem_cons.mpr ⟨zSX_of (s_aload_n (j := 0) (by decide +kernel) rfl rfl), ?_⟩
  refine List.forall_mem_cons.mpr ⟨zSX_of (s_iload_n (j := 3) (by decide +kernel) rfl rfl), ?_⟩
  refine List.forall_mem_cons.mpr ⟨zSX_of (s_iconst (by decide +kernel) rfl), ?_⟩
  refine List.forall_mem_cons.mpr ⟨zSX_of (s_iadd (by decide +kernel) rfl), ?_⟩
  refine List.forall_mem_cons.mpr ⟨s_sld (pc := 903) S (by decide +kernel) rfl, ?_⟩
  refine List.forall_mem_cons.mpr ⟨zSX_of (s_aload_n (j := 0) (by decide +kernel) rfl rfl), ?_⟩
  refine List.forall_mem_cons.mpr ⟨zSX_of (s_iload_n (j := 3) (by decide +kernel) rfl rfl), ?_⟩
  refine List.forall_mem_cons.mpr ⟨zSX_of (s_iconst (by decide +kernel) rfl), ?_⟩
  refine List.forall_mem_cons.mpr ⟨zSX_of (s_iadd (by decide +kernel) rfl), ?_⟩
  refine List.forall_mem_cons.mpr ⟨s_sld (pc := 908) S (by decide +kernel) rfl, ?_⟩
  refine List.forall_mem_cons.mpr ⟨zSX_of (s_aload_n (j := 0) (by decide +kernel) rfl rfl), ?_⟩
  refine List.forall_mem_cons.mpr ⟨zSX_of (s_iload_n (j := 3) (by decide +kernel) rfl rfl), ?_⟩
  refine List.forall_mem_cons.mpr ⟨zSX_of (s_iconst (by decide +kernel) rfl), ?_⟩
  refine List.forall_mem_cons.mpr ⟨zSX_of (s_iadd (by decide +kernel) rfl), ?_⟩
  refine List.forall_mem_cons.mpr ⟨s_sld (pc := 913) S (by decide +kernel) rfl, ?_⟩
  refine List.forall_mem_cons.mpr ⟨zSX_of (s_callv (idx := 87) (k' := k_X8_worth) (T := TX8) (N := 10) rfl q3_127 q3_124 q3_125 q3_126 q1_1 de_X8_worth (by decide) (by decide +kernel) rfl), ?_⟩
  refine List.forall_mem_cons.mpr ⟨zSX_of (s_aload_n (j := 2) (by decide +kernel) rfl rfl), ?_⟩
  refine List.forall_mem_cons.mpr ⟨zSX_of (s_aload_n (j := 0) (by decide +kernel) rfl rfl), ?_⟩
  refine List.forall_mem_cons.mpr ⟨zSX_of (s_iload_n (j := 3) (by decide +kernel) rfl rfl), ?_⟩
  refine List.forall_mem_cons.mpr ⟨zSX_of (s_iconst (by decide +kernel) rfl), ?_⟩
  refine List.forall_mem_cons.mpr ⟨zSX_of (s_iadd (by decide +kernel) rfl), ?_⟩
  refine List.forall_mem_cons.mpr ⟨s_sld (pc := 922) S (by decide +kernel) rfl, ?_⟩
  refine List.forall_mem_cons.mpr ⟨zSX_of (s_aload_n (j := 0) (by decide +kernel) rfl rfl), ?_⟩
  refine List.forall_mem_cons.mpr ⟨zSX_of (s_iload_n (j := 3) (by decide +kernel) rfl rfl), ?_⟩
  refine List.forall_mem_cons.mpr ⟨zSX_of (s_iconst (by decide +kernel) rfl), ?_⟩
  refine List.forall_mem_cons.mpr ⟨zSX_of (s_iadd (by decide +kernel) rfl), ?_⟩
  refine List.forall_mem_cons.mpr ⟨s_sld (pc := 927) S (by decide +kernel) rfl, ?_⟩
  refine List.forall_mem_cons.mpr ⟨zSX_of (s_aload_n (j := 0) (by decide +kernel) rfl rfl), ?_⟩
  refine List.forall_mem_cons.mpr ⟨zSX_of (s_iload_n (j := 3) (by decide +kernel) rfl rfl), ?_⟩
  refine List.forall_mem_cons.mpr ⟨zSX_of (s_iconst (by decide +kernel) rfl), ?_⟩
  refine List.forall_mem_cons.mpr ⟨zSX_of (s_iadd (by decide +kernel) rfl), ?_⟩
  refine List.forall_mem_cons.mpr ⟨s_sld (pc := 932) S (by decide +kernel) rfl, ?_⟩
  refine List.forall_mem_cons.mpr ⟨zSX_of (s_aload_n (j := 0) (by decide +kernel) rfl rfl), ?_⟩
  refine List.forall_mem_cons.mpr ⟨zSX_of (s_iload_n (j := 3) (by decide +kernel) rfl rfl), ?_⟩
  refine List.forall_mem_cons.mpr ⟨zSX_of (s_iconst (by decide +kernel) rfl), ?_⟩
  refine List.forall_mem_cons.mpr ⟨zSX_of (s_iadd (by decide +kernel) rfl), ?_⟩
  refine List.forall_mem_cons.mpr ⟨s_sld (pc := 937) S (by decide +kernel) rfl, ?_⟩
  refine List.forall_mem_cons.mpr ⟨zSX_of (s_callv (idx := 90) (k' := k_X9_worth) (T := TX9) (N := 54) rfl q6_15 q6_12 q6_13 q6_14 q1_10 de_X9_worth (by decide) (by decide +kernel) rfl), ?_⟩
  refine List.forall_mem_cons.mpr ⟨s_same (pc := 941) (off := 785) (by decide +kernel) (by decide), ?_⟩
  refine List.forall_mem_cons.mpr ⟨zSX_of (s_iconst (by decide +kernel) rfl), ?_⟩
  refine List.forall_mem_cons.mpr ⟨zSX_of (s_zret rfl (by decide +kernel)), ?_⟩
  exact fun q hq => absurd hq List.not_mem_nil
set_option maxHeartbeats 2000000 in
/-- 17: worth -/
theorem law_17 {X : zX} {L : Nat} {sc : Nat → Int32} (S : zScr X L sc) (C : zCx X 1000 k_L_law) (E : zEx X k_L_law (fun o _ => o = some (sI 1))) {i : Int} (i0 : 0 ≤ i) (i6 : i + 6 ≤ L) (IH : ∀ h, Inv2 h → zJ X 1726 [some (sR 99), some (sR 0), some (sR 52), some (sI i)] [] h) (h : zH) (hI : Inv2 h) : zJ X 893 [some (sR 99), some (sR 0), some (sR 52), some (sI i)] [] h := by
  have hL := S.2.2.2
  refine zrunX (t_law_17 S) C E [1726] 60 _ _ _ _ ?_
  refine And.intro (by omega) (And.intro (by omega) (And.intro (by omega) (And.intro (by omega) (And.intro (by omega) (And.intro (by omega) (And.intro (by omega) (And.intro (by omega) (?_))))))))
  refine zcall_i (d' := 999) (by omega) ((pr_worth (d := 999) (by omega) (i32_in _) (i32_in _) (i32_in _) (i32_in _)) h hI) ?_
  rintro _ g ⟨r, rfl, hm⟩
  refine And.intro (by omega) (And.intro (by omega) (And.intro (by omega) (And.intro (by omega) (And.intro (by omega) (And.intro (by omega) (And.intro (by omega) (And.intro (by omega) (?_))))))))
  refine zcall_i (d' := 999) (by omega) hm ?_
  rintro _ g' ⟨rfl, hI2⟩
  exact And.intro rfl (IH g' hI2)
def T_law_18 (L : Nat) (sc : Nat → Int32) : List (Nat × zO) := [(946, o_aload 947 1), (947, o_aload 948 0), (948, o_iload 949 3), (949, o_const 950 1), (950, o_iadd 951), (951, o_sld L sc 952), (952, o_aload 953 0), (953, o_iload 954 3), (954, o_const 955 2), (955, o_iadd 956), (956, o_sld L sc 957), (957, o_aload 958 0), (958, o_iload 959 3), (959, o_const 960 3), (960, o_iadd 961), (961, o_sld L sc 962), (962, o_aload 963 0), (963, o_iload 964 3), (964, o_const 965 4), (965, o_iadd 966), (966, o_sld L sc 967), (967, o_callv 4 8 k_X8_higher 970), (970, o_aload 971 2), (971, o_aload 972 0), (972, o_iload 973 3), (973, o_const 974 1), (974, o_iadd 975), (975, o_sld L sc 976), (976, o_aload 977 0), (977, o_iload 978 3), (978, o_const 979 2), (979, o_iadd 980), (980, o_sld L sc 981), (981, o_aload 982 0), (982, o_iload 983 3), (983, o_const 984 3), (984, o_iadd 985), (985, o_sld L sc 986), (986, o_aload 987 0), (987, o_iload 988 3), (988, o_const 989 4), (989, o_iadd 990), (990, o_sld L sc 991), (991, o_callv 4 9 k_X9_higher 994), (994, o_same 1726), (997, o_const 998 0), (998, o_zret)]
set_option maxRecDepth 20000 in
theorem t_law_18 {X : zX} {L : Nat} {sc : Nat → Int32} (S : zScr X L sc) : ∀ q ∈ T_law_18 L sc, zSX X k_L_law q.1 q.2 := by
  unfold T_law_18
  refine List.forall_mem_cons.mpr ⟨zSX_of (s_aload_n (j := 1) (by decide +kernel) rfl rfl), ?_⟩
  refine List.forall_mem_cons.mpr ⟨zSX_of (s_aload_n (j := 0) (by decide +kernel) rfl rfl), ?_⟩
  refine List.forall_mem_cons.mpr ⟨zSX_of (s_iload_n (j := 3) (by decide +kernel) rfl rfl), ?_⟩
  refine List.forall_mem_cons.mpr ⟨zSX_of (s_iconst (by decide +kernel) rfl), ?_⟩
  refine List.forall_mem_cons.mpr ⟨zSX_of (s_iadd (by decide +kernel) rfl), ?_⟩
  refine List.forall_mem_cons.mpr ⟨s_sld (pc := 951) S (by decide +kernel) rfl, ?_⟩
  refine List.forall_mem_cons.mpr ⟨zSX_of (s_aload_n (j := 0) (by decide +kernel) rfl rfl), ?_⟩
  refine List.forall_mem_cons.mpr ⟨zSX_of (s_iload_n (j := 3) (by decide +kernel) rfl rfl), ?_⟩
  refine List.forall_mem_cons.mpr ⟨zSX_of (s_iconst (by decide +kernel) rfl), ?_⟩
  refine List.forall_mem_cons.mpr ⟨zSX_of (s_iadd (by decide +kernel) rfl), ?_⟩
  refine List.forall_mem_cons.mpr ⟨s_sld (pc := 956) S (by decide +kernel) rfl, ?_⟩
  refine List.forall_mem_cons.mpr ⟨zSX_of (s_aload_n (j := 0) (by decide +kernel) rfl rfl), ?_⟩
  refine List.forall_mem_cons.mpr ⟨zSX_of (s_iload_n (j := 3) (by decide +kernel) rfl rfl), ?_⟩
  refine List.forall_mem_cons.mpr ⟨zSX_of (s_iconst (by decide +kernel) rfl), ?_⟩
  refine List.forall_mem_cons.mpr ⟨zSX_of (s_iadd (by decide +kernel) rfl), ?_⟩
  refine List.forall_mem_cons.mpr ⟨s_sld (pc := 961) S (by decide +kernel) rfl, ?_⟩
  refine List.forall_mem_cons.mpr ⟨zSX_of (s_aload_n (j := 0) (by decide +kernel) rfl rfl), ?_⟩
  refine List.forall_mem_cons.mpr ⟨zSX_of (s_iload_n (j := 3) (by decide +kernel) rfl rfl), ?_⟩
  refine List.forall_mem_cons.mpr ⟨zSX_of (s_iconst (by decide +kernel) rfl), ?_⟩
  refine List.forall_mem_cons.mpr ⟨zSX_of (s_iadd (by decide +kernel) rfl), ?_⟩
  refine List.forall_mem_cons.mpr ⟨s_sld (pc := 966) S (by decide +kernel) rfl, ?_⟩
  refine List.forall_mem_cons.mpr ⟨zSX_of (s_callv (idx := 91) (k' := k_X8_higher) (T := TX8) (N := 10) rfl q3_135 q3_132 q3_133 q3_134 q1_1 de_X8_higher (by decide) (by decide +kernel) rfl), ?_⟩
  refine List.forall_mem_cons.mpr ⟨zSX_of (s_aload_n (j := 2) (by decide +kernel) rfl rfl), ?_⟩
  refine List.forall_mem_cons.mpr ⟨zSX_of (s_aload_n (j := 0) (by decide +kernel) rfl rfl), ?_⟩
  refine List.forall_mem_cons.mpr ⟨zSX_of (s_iload_n (j := 3) (by decide +kernel) rfl rfl), ?_⟩
  refine List.forall_mem_cons.mpr ⟨zSX_of (s_iconst (by decide +kernel) rfl), ?_⟩
  refine List.forall_mem_cons.mpr ⟨zSX_of (s_iadd (by decide +kernel) rfl), ?_⟩
  refine List.forall_mem_cons.mpr ⟨s_sld (pc := 975) S (by decide +kernel) rfl, ?_⟩
  refine List.forall_mem_cons.mpr ⟨zSX_of (s_aload_n (j := 0) (by decide +kernel) rfl rfl), ?_⟩
  refine List.forall_mem_cons.mpr ⟨zSX_of (s_iload_n (j := 3) (by decide +kernel) rfl rfl), ?_⟩
  refine List.forall_mem_cons.mpr ⟨zSX_of (s_iconst (by decide +kernel) rfl), ?_⟩
  refine List.forall_mem_cons.mpr ⟨zSX_of (s_iadd (by decide +kernel) rfl), ?_⟩
  refine List.forall_mem_cons.mpr ⟨s_sld (pc := 980) S (by decide +kernel) rfl, ?_⟩
  refine List.forall_mem_cons.mpr ⟨zSX_of (s_aload_n (j := 0) (by decide +kernel) rfl rfl), ?_⟩
  refine List.forall_mem_cons.mpr ⟨zSX_of (s_iload_n (j := 3) (by decide +kernel) rfl rfl), ?_⟩
  refine List.forall_mem_cons.mpr ⟨zSX_of (s_iconst (by decide +kernel) rfl), ?_⟩
  refine List.forall_mem_cons.mpr ⟨zSX_of (s_iadd (by decide +kernel) rfl), ?_⟩
  refine List.forall_mem_cons.mpr ⟨s_sld (pc := 985) S (by decide +kernel) rfl, ?_⟩
  refine List.forall_mem_cons.mpr ⟨zSX_of (s_aload_n (j := 0) (by decide +kernel) rfl rfl), ?_⟩
  refine List.forall_mem_cons.mpr ⟨zSX_of (s_iload_n (j := 3) (by decide +kernel) rfl rfl), ?_⟩
  refine List.forall_mem_cons.mpr ⟨zSX_of (s_iconst (by decide +kernel) rfl), ?_⟩
  refine List.forall_mem_cons.mpr ⟨zSX_of (s_iadd (by decide +kernel) rfl), ?_⟩
  refine List.forall_mem_cons.mpr ⟨s_sld (pc := 990) S (by decide +kernel) rfl, ?_⟩
  refine List.forall_mem_cons.mpr ⟨zSX_of (s_callv (idx := 94) (k' := k_X9_higher) (T := TX9) (N := 54) rfl q6_23 q6_20 q6_21 q6_22 q1_10 de_X9_higher (by decide) (by decide +kernel) rfl), ?_⟩
  refine List.forall_mem_cons.mpr ⟨s_same (pc := 994) (off := 732) (by decide +kernel) (by decide), ?_⟩
  refine List.forall_mem_cons.mpr ⟨zSX_of (s_iconst (by decide +kernel) rfl), ?_⟩
  refine List.forall_mem_cons.mpr ⟨zSX_of (s_zret rfl (by decide +kernel)), ?_⟩
  exact fun q hq => absurd hq List.not_mem_nil
set_option maxHeartbeats 2000000 in
/-- 18: higher -/
theorem law_18 {X : zX} {L : Nat} {sc : Nat → Int32} (S : zScr X L sc) (C : zCx X 1000 k_L_law) (E : zEx X k_L_law (fun o _ => o = some (sI 1))) {i : Int} (i0 : 0 ≤ i) (i6 : i + 6 ≤ L) (IH : ∀ h, Inv2 h → zJ X 1726 [some (sR 99), some (sR 0), some (sR 52), some (sI i)] [] h) (h : zH) (hI : Inv2 h) : zJ X 946 [some (sR 99), some (sR 0), some (sR 52), some (sI i)] [] h := by
  have hL := S.2.2.2
  refine zrunX (t_law_18 S) C E [1726] 60 _ _ _ _ ?_
  refine And.intro (by omega) (And.intro (by omega) (And.intro (by omega) (And.intro (by omega) (And.intro (by omega) (And.intro (by omega) (And.intro (by omega) (And.intro (by omega) (?_))))))))
  refine zcall_i (d' := 999) (by omega) ((pr_higher (d := 999) (by omega) (i32_in _) (i32_in _) (i32_in _) (i32_in _)) h hI) ?_
  rintro _ g ⟨r, rfl, hm⟩
  refine And.intro (by omega) (And.intro (by omega) (And.intro (by omega) (And.intro (by omega) (And.intro (by omega) (And.intro (by omega) (And.intro (by omega) (And.intro (by omega) (?_))))))))
  refine zcall_i (d' := 999) (by omega) hm ?_
  rintro _ g' ⟨rfl, hI2⟩
  exact And.intro rfl (IH g' hI2)
def T_law_19 (L : Nat) (sc : Nat → Int32) : List (Nat × zO) := [(999, o_aload 1000 1), (1000, o_aload 1001 0), (1001, o_iload 1002 3), (1002, o_const 1003 1), (1003, o_iadd 1004), (1004, o_sld L sc 1005), (1005, o_aload 1006 0), (1006, o_iload 1007 3), (1007, o_const 1008 2), (1008, o_iadd 1009), (1009, o_sld L sc 1010), (1010, o_aload 1011 0), (1011, o_iload 1012 3), (1012, o_const 1013 3), (1013, o_iadd 1014), (1014, o_sld L sc 1015), (1015, o_callv 3 8 k_X8_must 1018), (1018, o_aload 1019 2), (1019, o_aload 1020 0), (1020, o_iload 1021 3), (1021, o_const 1022 1), (1022, o_iadd 1023), (1023, o_sld L sc 1024), (1024, o_aload 1025 0), (1025, o_iload 1026 3), (1026, o_const 1027 2), (1027, o_iadd 1028), (1028, o_sld L sc 1029), (1029, o_aload 1030 0), (1030, o_iload 1031 3), (1031, o_const 1032 3), (1032, o_iadd 1033), (1033, o_sld L sc 1034), (1034, o_callv 3 9 k_X9_must 1037), (1037, o_same 1726), (1040, o_const 1041 0), (1041, o_zret)]
set_option maxRecDepth 20000 in
theorem t_law_19 {X : zX} {L : Nat} {sc : Nat → Int32} (S : zScr X L sc) : ∀ q ∈ T_law_19 L sc, zSX X k_L_law q.1 q.2 := by
  unfold T_law_19
  refine List.forall_mem_cons.mpr ⟨zSX_of (s_aload_n (j := 1) (by decide +kernel) rfl rfl), ?_⟩
  refine List.forall_mem_cons.mpr ⟨zSX_of (s_aload_n (j := 0) (by decide +kernel) rfl rfl), ?_⟩
  refine List.forall_mem_cons.mpr ⟨zSX_of (s_iload_n (j := 3) (by decide +kernel) rfl rfl), ?_⟩
  refine List.forall_mem_cons.mpr ⟨zSX_of (s_iconst (by decide +kernel) rfl), ?_⟩
  refine List.forall_mem_cons.mpr ⟨zSX_of (s_iadd (by decide +kernel) rfl), ?_⟩
  refine List.forall_mem_cons.mpr ⟨s_sld (pc := 1004) S (by decide +kernel) rfl, ?_⟩
  refine List.forall_mem_cons.mpr ⟨zSX_of (s_aload_n (j := 0) (by decide +kernel) rfl rfl), ?_⟩
  refine List.forall_mem_cons.mpr ⟨zSX_of (s_iload_n (j := 3) (by decide +kernel) rfl rfl), ?_⟩
  refine List.forall_mem_cons.mpr ⟨zSX_of (s_iconst (by decide +kernel) rfl), ?_⟩
  refine List.forall_mem_cons.mpr ⟨zSX_of (s_iadd (by decide +kernel) rfl), ?_⟩
  refine List.forall_mem_cons.mpr ⟨s_sld (pc := 1009) S (by decide +kernel) rfl, ?_⟩
  refine List.forall_mem_cons.mpr ⟨zSX_of (s_aload_n (j := 0) (by decide +kernel) rfl rfl), ?_⟩
  refine List.forall_mem_cons.mpr ⟨zSX_of (s_iload_n (j := 3) (by decide +kernel) rfl rfl), ?_⟩
  refine List.forall_mem_cons.mpr ⟨zSX_of (s_iconst (by decide +kernel) rfl), ?_⟩
  refine List.forall_mem_cons.mpr ⟨zSX_of (s_iadd (by decide +kernel) rfl), ?_⟩
  refine List.forall_mem_cons.mpr ⟨s_sld (pc := 1014) S (by decide +kernel) rfl, ?_⟩
  refine List.forall_mem_cons.mpr ⟨zSX_of (s_callv (idx := 95) (k' := k_X8_must) (T := TX8) (N := 10) rfl q3_143 q3_140 q3_141 q3_142 q1_1 de_X8_must (by decide) (by decide +kernel) rfl), ?_⟩
  refine List.forall_mem_cons.mpr ⟨zSX_of (s_aload_n (j := 2) (by decide +kernel) rfl rfl), ?_⟩
  refine List.forall_mem_cons.mpr ⟨zSX_of (s_aload_n (j := 0) (by decide +kernel) rfl rfl), ?_⟩
  refine List.forall_mem_cons.mpr ⟨zSX_of (s_iload_n (j := 3) (by decide +kernel) rfl rfl), ?_⟩
  refine List.forall_mem_cons.mpr ⟨zSX_of (s_iconst (by decide +kernel) rfl), ?_⟩
  refine List.forall_mem_cons.mpr ⟨zSX_of (s_iadd (by decide +kernel) rfl), ?_⟩
  refine List.forall_mem_cons.mpr ⟨s_sld (pc := 1023) S (by decide +kernel) rfl, ?_⟩
  refine List.forall_mem_cons.mpr ⟨zSX_of (s_aload_n (j := 0) (by decide +kernel) rfl rfl), ?_⟩
  refine List.forall_mem_cons.mpr ⟨zSX_of (s_iload_n (j := 3) (by decide +kernel) rfl rfl), ?_⟩
  refine List.forall_mem_cons.mpr ⟨zSX_of (s_iconst (by decide +kernel) rfl), ?_⟩
  refine List.forall_mem_cons.mpr ⟨zSX_of (s_iadd (by decide +kernel) rfl), ?_⟩
  refine List.forall_mem_cons.mpr ⟨s_sld (pc := 1028) S (by decide +kernel) rfl, ?_⟩
  refine List.forall_mem_cons.mpr ⟨zSX_of (s_aload_n (j := 0) (by decide +kernel) rfl rfl), ?_⟩
  refine List.forall_mem_cons.mpr ⟨zSX_of (s_iload_n (j := 3) (by decide +kernel) rfl rfl), ?_⟩
  refine List.forall_mem_cons.mpr ⟨zSX_of (s_iconst (by decide +kernel) rfl), ?_⟩
  refine List.forall_mem_cons.mpr ⟨zSX_of (s_iadd (by decide +kernel) rfl), ?_⟩
  refine List.forall_mem_cons.mpr ⟨s_sld (pc := 1033) S (by decide +kernel) rfl, ?_⟩
  refine List.forall_mem_cons.mpr ⟨zSX_of (s_callv (idx := 98) (k' := k_X9_must) (T := TX9) (N := 54) rfl q6_31 q6_28 q6_29 q6_30 q1_10 de_X9_must (by decide) (by decide +kernel) rfl), ?_⟩
  refine List.forall_mem_cons.mpr ⟨s_same (pc := 1037) (off := 689) (by decide +kernel) (by decide), ?_⟩
  refine List.forall_mem_cons.mpr ⟨zSX_of (s_iconst (by decide +kernel) rfl), ?_⟩
  refine List.forall_mem_cons.mpr ⟨zSX_of (s_zret rfl (by decide +kernel)), ?_⟩
  exact fun q hq => absurd hq List.not_mem_nil
set_option maxHeartbeats 2000000 in
/-- 19: must -/
theorem law_19 {X : zX} {L : Nat} {sc : Nat → Int32} (S : zScr X L sc) (C : zCx X 1000 k_L_law) (E : zEx X k_L_law (fun o _ => o = some (sI 1))) {i : Int} (i0 : 0 ≤ i) (i6 : i + 6 ≤ L) (IH : ∀ h, Inv2 h → zJ X 1726 [some (sR 99), some (sR 0), some (sR 52), some (sI i)] [] h) (h : zH) (hI : Inv2 h) : zJ X 999 [some (sR 99), some (sR 0), some (sR 52), some (sI i)] [] h := by
  have hL := S.2.2.2
  refine zrunX (t_law_19 S) C E [1726] 60 _ _ _ _ ?_
  refine And.intro (by omega) (And.intro (by omega) (And.intro (by omega) (And.intro (by omega) (And.intro (by omega) (And.intro (by omega) (?_))))))
  refine zcall_i (d' := 999) (by omega) ((pr_must (d := 999) (by omega) (i32_in _) (i32_in _) (i32_in _)) h hI) ?_
  rintro _ g ⟨r, rfl, hm⟩
  refine And.intro (by omega) (And.intro (by omega) (And.intro (by omega) (And.intro (by omega) (And.intro (by omega) (And.intro (by omega) (?_))))))
  refine zcall_i (d' := 999) (by omega) hm ?_
  rintro _ g' ⟨rfl, hI2⟩
  exact And.intro rfl (IH g' hI2)
def T_law_20 (L : Nat) (sc : Nat → Int32) : List (Nat × zO) := [(1042, o_aload 1043 1), (1043, o_aload 1044 0), (1044, o_iload 1045 3), (1045, o_const 1046 1), (1046, o_iadd 1047), (1047, o_sld L sc 1048), (1048, o_callv 1 8 k_X8_move 1051), (1051, o_aload 1052 2), (1052, o_aload 1053 0), (1053, o_iload 1054 3), (1054, o_const 1055 1), (1055, o_iadd 1056), (1056, o_sld L sc 1057), (1057, o_callv 1 9 k_X9_move 1060), (1060, o_same 1726), (1063, o_const 1064 0), (1064, o_zret)]
set_option maxRecDepth 20000 in
theorem t_law_20 {X : zX} {L : Nat} {sc : Nat → Int32} (S : zScr X L sc) : ∀ q ∈ T_law_20 L sc, zSX X k_L_law q.1 q.2 := by
  unfold T_law_20
  refine List.forall_mem_cons.mpr ⟨zSX_of (s_aload_n (j := 1) (by decide +kernel) rfl rfl), ?_⟩
  refine List.forall_mem_cons.mpr ⟨zSX_of (s_aload_n (j := 0) (by decide +kernel) rfl rfl), ?_⟩
  refine List.forall_mem_cons.mpr ⟨zSX_of (s_iload_n (j := 3) (by decide +kernel) rfl rfl), ?_⟩
  refine List.forall_mem_cons.mpr ⟨zSX_of (s_iconst (by decide +kernel) rfl), ?_⟩
  refine List.forall_mem_cons.mpr ⟨zSX_of (s_iadd (by decide +kernel) rfl), ?_⟩
  refine List.forall_mem_cons.mpr ⟨s_sld (pc := 1047) S (by decide +kernel) rfl, ?_⟩
  refine List.forall_mem_cons.mpr ⟨zSX_of (s_callv (idx := 99) (k' := k_X8_move) (T := TX8) (N := 10) rfl q3_151 q3_148 q3_149 q3_150 q1_1 de_X8_move (by decide) (by decide +kernel) rfl), ?_⟩
  refine List.forall_mem_cons.mpr ⟨zSX_of (s_aload_n (j := 2) (by decide +kernel) rfl rfl), ?_⟩
  refine List.forall_mem_cons.mpr ⟨zSX_of (s_aload_n (j := 0) (by decide +kernel) rfl rfl), ?_⟩
  refine List.forall_mem_cons.mpr ⟨zSX_of (s_iload_n (j := 3) (by decide +kernel) rfl rfl), ?_⟩
  refine List.forall_mem_cons.mpr ⟨zSX_of (s_iconst (by decide +kernel) rfl), ?_⟩
  refine List.forall_mem_cons.mpr ⟨zSX_of (s_iadd (by decide +kernel) rfl), ?_⟩
  refine List.forall_mem_cons.mpr ⟨s_sld (pc := 1056) S (by decide +kernel) rfl, ?_⟩
  refine List.forall_mem_cons.mpr ⟨zSX_of (s_callv (idx := 102) (k' := k_X9_move) (T := TX9) (N := 54) rfl q6_35 q6_32 q6_33 q6_34 q1_10 de_X9_move (by decide) (by decide +kernel) rfl), ?_⟩
  refine List.forall_mem_cons.mpr ⟨s_same (pc := 1060) (off := 666) (by decide +kernel) (by decide), ?_⟩
  refine List.forall_mem_cons.mpr ⟨zSX_of (s_iconst (by decide +kernel) rfl), ?_⟩
  refine List.forall_mem_cons.mpr ⟨zSX_of (s_zret rfl (by decide +kernel)), ?_⟩
  exact fun q hq => absurd hq List.not_mem_nil
set_option maxHeartbeats 2000000 in
/-- 20: move -/
theorem law_20 {X : zX} {L : Nat} {sc : Nat → Int32} (S : zScr X L sc) (C : zCx X 1000 k_L_law) (E : zEx X k_L_law (fun o _ => o = some (sI 1))) {i : Int} (i0 : 0 ≤ i) (i6 : i + 6 ≤ L) (IH : ∀ h, Inv2 h → zJ X 1726 [some (sR 99), some (sR 0), some (sR 52), some (sI i)] [] h) (h : zH) (hI : Inv2 h) : zJ X 1042 [some (sR 99), some (sR 0), some (sR 52), some (sI i)] [] h := by
  have hL := S.2.2.2
  refine zrunX (t_law_20 S) C E [1726] 60 _ _ _ _ ?_
  refine And.intro (by omega) (And.intro (by omega) (?_))
  refine zcall_i (d' := 999) (by omega) ((pr_move (d := 999) (by omega) (i32_in _)) h hI) ?_
  rintro _ g ⟨r, rfl, hm⟩
  refine And.intro (by omega) (And.intro (by omega) (?_))
  refine zcall_i (d' := 999) (by omega) hm ?_
  rintro _ g' ⟨rfl, hI2⟩
  exact And.intro rfl (IH g' hI2)
def T_law_21 (L : Nat) (sc : Nat → Int32) : List (Nat × zO) := [(1065, o_aload 1066 1), (1066, o_aload 1067 0), (1067, o_iload 1068 3), (1068, o_const 1069 1), (1069, o_iadd 1070), (1070, o_sld L sc 1071), (1071, o_aload 1072 0), (1072, o_iload 1073 3), (1073, o_const 1074 2), (1074, o_iadd 1075), (1075, o_sld L sc 1076), (1076, o_aload 1077 0), (1077, o_iload 1078 3), (1078, o_const 1079 3), (1079, o_iadd 1080), (1080, o_sld L sc 1081), (1081, o_callv 3 8 k_X8_moves 1084), (1084, o_aload 1085 2), (1085, o_aload 1086 0), (1086, o_iload 1087 3), (1087, o_const 1088 1), (1088, o_iadd 1089), (1089, o_sld L sc 1090), (1090, o_aload 1091 0), (1091, o_iload 1092 3), (1092, o_const 1093 2), (1093, o_iadd 1094), (1094, o_sld L sc 1095), (1095, o_aload 1096 0), (1096, o_iload 1097 3), (1097, o_const 1098 3), (1098, o_iadd 1099), (1099, o_sld L sc 1100), (1100, o_callv 3 9 k_X9_moves 1103), (1103, o_same 1726), (1106, o_const 1107 0), (1107, o_zret)]
set_option maxRecDepth 20000 in
theorem t_law_21 {X : zX} {L : Nat} {sc : Nat → Int32} (S : zScr X L sc) : ∀ q ∈ T_law_21 L sc, zSX X k_L_law q.1 q.2 := by
  unfold T_law_21
  refine List.forall_mem_cons.mpr ⟨zSX_of (s_aload_n (j := 1) (by decide +kernel) rfl rfl), ?_⟩
  refine List.forall_mem_cons.mpr ⟨zSX_of (s_aload_n (j := 0) (by decide +kernel) rfl rfl), ?_⟩
  refine List.forall_mem_cons.mpr ⟨zSX_of (s_iload_n (j := 3) (by decide +kernel) rfl rfl), ?_⟩
  refine List.forall_mem_cons.mpr ⟨zSX_of (s_iconst (by decide +kernel) rfl), ?_⟩
  refine List.forall_mem_cons.mpr ⟨zSX_of (s_iadd (by decide +kernel) rfl), ?_⟩
  refine List.forall_mem_cons.mpr ⟨s_sld (pc := 1070) S (by decide +kernel) rfl, ?_⟩
  refine List.forall_mem_cons.mpr ⟨zSX_of (s_aload_n (j := 0) (by decide +kernel) rfl rfl), ?_⟩
  refine List.forall_mem_cons.mpr ⟨zSX_of (s_iload_n (j := 3) (by decide +kernel) rfl rfl), ?_⟩
  refine List.forall_mem_cons.mpr ⟨zSX_of (s_iconst (by decide +kernel) rfl), ?_⟩
  refine List.forall_mem_cons.mpr ⟨zSX_of (s_iadd (by decide +kernel) rfl), ?_⟩
  refine List.forall_mem_cons.mpr ⟨s_sld (pc := 1075) S (by decide +kernel) rfl, ?_⟩
  refine List.forall_mem_cons.mpr ⟨zSX_of (s_aload_n (j := 0) (by decide +kernel) rfl rfl), ?_⟩
  refine List.forall_mem_cons.mpr ⟨zSX_of (s_iload_n (j := 3) (by decide +kernel) rfl rfl), ?_⟩
  refine List.forall_mem_cons.mpr ⟨zSX_of (s_iconst (by decide +kernel) rfl), ?_⟩
  refine List.forall_mem_cons.mpr ⟨zSX_of (s_iadd (by decide +kernel) rfl), ?_⟩
  refine List.forall_mem_cons.mpr ⟨s_sld (pc := 1080) S (by decide +kernel) rfl, ?_⟩
  refine List.forall_mem_cons.mpr ⟨zSX_of (s_callv (idx := 103) (k' := k_X8_moves) (T := TX8) (N := 10) rfl q3_163 q3_160 q3_161 q3_162 q1_1 de_X8_moves (by decide) (by decide +kernel) rfl), ?_⟩
  refine List.forall_mem_cons.mpr ⟨zSX_of (s_aload_n (j := 2) (by decide +kernel) rfl rfl), ?_⟩
  refine List.forall_mem_cons.mpr ⟨zSX_of (s_aload_n (j := 0) (by decide +kernel) rfl rfl), ?_⟩
  refine List.forall_mem_cons.mpr ⟨zSX_of (s_iload_n (j := 3) (by decide +kernel) rfl rfl), ?_⟩
  refine List.forall_mem_cons.mpr ⟨zSX_of (s_iconst (by decide +kernel) rfl), ?_⟩
  refine List.forall_mem_cons.mpr ⟨zSX_of (s_iadd (by decide +kernel) rfl), ?_⟩
  refine List.forall_mem_cons.mpr ⟨s_sld (pc := 1089) S (by decide +kernel) rfl, ?_⟩
  refine List.forall_mem_cons.mpr ⟨zSX_of (s_aload_n (j := 0) (by decide +kernel) rfl rfl), ?_⟩
  refine List.forall_mem_cons.mpr ⟨zSX_of (s_iload_n (j := 3) (by decide +kernel) rfl rfl), ?_⟩
  refine List.forall_mem_cons.mpr ⟨zSX_of (s_iconst (by decide +kernel) rfl), ?_⟩
  refine List.forall_mem_cons.mpr ⟨zSX_of (s_iadd (by decide +kernel) rfl), ?_⟩
  refine List.forall_mem_cons.mpr ⟨s_sld (pc := 1094) S (by decide +kernel) rfl, ?_⟩
  refine List.forall_mem_cons.mpr ⟨zSX_of (s_aload_n (j := 0) (by decide +kernel) rfl rfl), ?_⟩
  refine List.forall_mem_cons.mpr ⟨zSX_of (s_iload_n (j := 3) (by decide +kernel) rfl rfl), ?_⟩
  refine List.forall_mem_cons.mpr ⟨zSX_of (s_iconst (by decide +kernel) rfl), ?_⟩
  refine List.forall_mem_cons.mpr ⟨zSX_of (s_iadd (by decide +kernel) rfl), ?_⟩
  refine List.forall_mem_cons.mpr ⟨s_sld (pc := 1099) S (by decide +kernel) rfl, ?_⟩
  refine List.forall_mem_cons.mpr ⟨zSX_of (s_callv (idx := 106) (k' := k_X9_moves) (T := TX9) (N := 54) rfl q6_41 q6_38 q6_39 q6_40 q1_10 de_X9_moves (by decide) (by decide +kernel) rfl), ?_⟩
  refine List.forall_mem_cons.mpr ⟨s_same (pc := 1103) (off := 623) (by decide +kernel) (by decide), ?_⟩
  refine List.forall_mem_cons.mpr ⟨zSX_of (s_iconst (by decide +kernel) rfl), ?_⟩
  refine List.forall_mem_cons.mpr ⟨zSX_of (s_zret rfl (by decide +kernel)), ?_⟩
  exact fun q hq => absurd hq List.not_mem_nil
set_option maxHeartbeats 2000000 in
/-- 21: moves -/
theorem law_21 {X : zX} {L : Nat} {sc : Nat → Int32} (S : zScr X L sc) (C : zCx X 1000 k_L_law) (E : zEx X k_L_law (fun o _ => o = some (sI 1))) {i : Int} (i0 : 0 ≤ i) (i6 : i + 6 ≤ L) (IH : ∀ h, Inv2 h → zJ X 1726 [some (sR 99), some (sR 0), some (sR 52), some (sI i)] [] h) (h : zH) (hI : Inv2 h) : zJ X 1065 [some (sR 99), some (sR 0), some (sR 52), some (sI i)] [] h := by
  have hL := S.2.2.2
  refine zrunX (t_law_21 S) C E [1726] 60 _ _ _ _ ?_
  refine And.intro (by omega) (And.intro (by omega) (And.intro (by omega) (And.intro (by omega) (And.intro (by omega) (And.intro (by omega) (?_))))))
  refine zcall_i (d' := 999) (by omega) ((pr_moves (d := 999) (by omega) (i32_in _) (i32_in _) (i32_in _)) h hI) ?_
  rintro _ g ⟨r, rfl, hm⟩
  refine And.intro (by omega) (And.intro (by omega) (And.intro (by omega) (And.intro (by omega) (And.intro (by omega) (And.intro (by omega) (?_))))))
  refine zcall_i (d' := 999) (by omega) hm ?_
  rintro _ g' ⟨rfl, hI2⟩
  exact And.intro rfl (IH g' hI2)
def T_law_22 (L : Nat) (sc : Nat → Int32) : List (Nat × zO) := [(1108, o_aload 1109 1), (1109, o_callv 0 8 k_X8_drop 1112), (1112, o_aload 1113 2), (1113, o_callv 0 9 k_X9_drop 1116), (1116, o_same 1726), (1119, o_const 1120 0), (1120, o_zret)]
set_option maxRecDepth 20000 in
theorem t_law_22 {X : zX} {L : Nat} {sc : Nat → Int32} (S : zScr X L sc) : ∀ q ∈ T_law_22 L sc, zSX X k_L_law q.1 q.2 := by
  unfold T_law_22
  refine List.forall_mem_cons.mpr ⟨zSX_of (s_aload_n (j := 1) (by decide +kernel) rfl rfl), ?_⟩
  refine List.forall_mem_cons.mpr ⟨zSX_of (s_callv (idx := 107) (k' := k_X8_drop) (T := TX8) (N := 10) rfl q3_174 q3_171 q3_172 q3_173 q1_1 de_X8_drop (by decide) (by decide +kernel) rfl), ?_⟩
  refine List.forall_mem_cons.mpr ⟨zSX_of (s_aload_n (j := 2) (by decide +kernel) rfl rfl), ?_⟩
  refine List.forall_mem_cons.mpr ⟨zSX_of (s_callv (idx := 110) (k' := k_X9_drop) (T := TX9) (N := 54) rfl q6_51 q6_48 q6_49 q6_50 q1_10 de_X9_drop (by decide) (by decide +kernel) rfl), ?_⟩
  refine List.forall_mem_cons.mpr ⟨s_same (pc := 1116) (off := 610) (by decide +kernel) (by decide), ?_⟩
  refine List.forall_mem_cons.mpr ⟨zSX_of (s_iconst (by decide +kernel) rfl), ?_⟩
  refine List.forall_mem_cons.mpr ⟨zSX_of (s_zret rfl (by decide +kernel)), ?_⟩
  exact fun q hq => absurd hq List.not_mem_nil
set_option maxHeartbeats 2000000 in
/-- 22: drop -/
theorem law_22 {X : zX} {L : Nat} {sc : Nat → Int32} (S : zScr X L sc) (C : zCx X 1000 k_L_law) (E : zEx X k_L_law (fun o _ => o = some (sI 1))) {i : Int} (i0 : 0 ≤ i) (i6 : i + 6 ≤ L) (IH : ∀ h, Inv2 h → zJ X 1726 [some (sR 99), some (sR 0), some (sR 52), some (sI i)] [] h) (h : zH) (hI : Inv2 h) : zJ X 1108 [some (sR 99), some (sR 0), some (sR 52), some (sI i)] [] h := by
  have hL := S.2.2.2
  refine zrunX (t_law_22 S) C E [1726] 60 _ _ _ _ ?_
  refine zcall_i (d' := 999) (by omega) ((pr_drop (d := 999)) h hI) ?_
  rintro _ g ⟨r, rfl, hm⟩
  refine zcall_i (d' := 999) (by omega) hm ?_
  rintro _ g' ⟨rfl, hI2⟩
  exact And.intro rfl (IH g' hI2)
def T_law_23 (L : Nat) (sc : Nat → Int32) : List (Nat × zO) := [(1121, o_aload 1122 1), (1122, o_aload 1123 0), (1123, o_iload 1124 3), (1124, o_const 1125 1), (1125, o_iadd 1126), (1126, o_sld L sc 1127), (1127, o_aload 1128 0), (1128, o_iload 1129 3), (1129, o_const 1130 2), (1130, o_iadd 1131), (1131, o_sld L sc 1132), (1132, o_aload 1133 0), (1133, o_iload 1134 3), (1134, o_const 1135 3), (1135, o_iadd 1136), (1136, o_sld L sc 1137), (1137, o_aload 1138 0), (1138, o_iload 1139 3), (1139, o_const 1140 4), (1140, o_iadd 1141), (1141, o_sld L sc 1142), (1142, o_callv 4 8 k_X8_judge 1145), (1145, o_aload 1146 2), (1146, o_aload 1147 0), (1147, o_iload 1148 3), (1148, o_const 1149 1), (1149, o_iadd 1150), (1150, o_sld L sc 1151), (1151, o_aload 1152 0), (1152, o_iload 1153 3), (1153, o_const 1154 2), (1154, o_iadd 1155), (1155, o_sld L sc 1156), (1156, o_aload 1157 0), (1157, o_iload 1158 3), (1158, o_const 1159 3), (1159, o_iadd 1160), (1160, o_sld L sc 1161), (1161, o_aload 1162 0), (1162, o_iload 1163 3), (1163, o_const 1164 4), (1164, o_iadd 1165), (1165, o_sld L sc 1166), (1166, o_callv 4 9 k_X9_judge 1169), (1169, o_same 1726), (1172, o_const 1173 0), (1173, o_zret)]
set_option maxRecDepth 20000 in
theorem t_law_23 {X : zX} {L : Nat} {sc : Nat → Int32} (S : zScr X L sc) : ∀ q ∈ T_law_23 L sc, zSX X k_L_law q.1 q.2 := by
  unfold T_law_23
  refine List.forall_mem_cons.mpr ⟨zSX_of (s_aload_n (j := 1) (by decide +kernel) rfl rfl), ?_⟩
  refine List.forall_mem_cons.mpr ⟨zSX_of (s_aload_n (j := 0) (by decide +kernel) rfl rfl), ?_⟩
  refine List.forall_mem_cons.mpr ⟨zSX_of (s_iload_n (j := 3) (by decide +kernel) rfl rfl), ?_⟩
  refine List.forall_mem_cons.mpr ⟨zSX_of (s_iconst (by decide +kernel) rfl), ?_⟩
  refine List.forall_mem_cons.mpr ⟨zSX_of (s_iadd (by decide +kernel) rfl), ?_⟩
  refine List.forall_mem_cons.mpr ⟨s_sld (pc := 1126) S (by decide +kernel) rfl, ?_⟩
  refine List.forall_mem_cons.mpr ⟨zSX_of (s_aload_n (j := 0) (by decide +kernel) rfl rfl), ?_⟩
  refine List.forall_mem_cons.mpr ⟨zSX_of (s_iload_n (j := 3) (by decide +kernel) rfl rfl), ?_⟩
  refine List.forall_mem_cons.mpr ⟨zSX_of (s_iconst (by decide +kernel) rfl), ?_⟩
  refine List.forall_mem_cons.mpr ⟨zSX_of (s_iadd (by decide +kernel) rfl), ?_⟩
  refine List.forall_mem_cons.mpr ⟨s_sld (pc := 1131) S (by decide +kernel) rfl, ?_⟩
  refine List.forall_mem_cons.mpr ⟨zSX_of (s_aload_n (j := 0) (by decide +kernel) rfl rfl), ?_⟩
  refine List.forall_mem_cons.mpr ⟨zSX_of (s_iload_n (j := 3) (by decide +kernel) rfl rfl), ?_⟩
  refine List.forall_mem_cons.mpr ⟨zSX_of (s_iconst (by decide +kernel) rfl), ?_⟩
  refine List.forall_mem_cons.mpr ⟨zSX_of (s_iadd (by decide +kernel) rfl), ?_⟩
  refine List.forall_mem_cons.mpr ⟨s_sld (pc := 1136) S (by decide +kernel) rfl, ?_⟩
  refine List.forall_mem_cons.mpr ⟨zSX_of (s_aload_n (j := 0) (by decide +kernel) rfl rfl), ?_⟩
  refine List.forall_mem_cons.mpr ⟨zSX_of (s_iload_n (j := 3) (by decide +kernel) rfl rfl), ?_⟩
  refine List.forall_mem_cons.mpr ⟨zSX_of (s_iconst (by decide +kernel) rfl), ?_⟩
  refine List.forall_mem_cons.mpr ⟨zSX_of (s_iadd (by decide +kernel) rfl), ?_⟩
  refine List.forall_mem_cons.mpr ⟨s_sld (pc := 1141) S (by decide +kernel) rfl, ?_⟩
  refine List.forall_mem_cons.mpr ⟨zSX_of (s_callv (idx := 111) (k' := k_X8_judge) (T := TX8) (N := 10) rfl q3_178 q3_175 q3_176 q3_177 q1_1 de_X8_judge (by decide) (by decide +kernel) rfl), ?_⟩
  refine List.forall_mem_cons.mpr ⟨zSX_of (s_aload_n (j := 2) (by decide +kernel) rfl rfl), ?_⟩
  refine List.forall_mem_cons.mpr ⟨zSX_of (s_aload_n (j := 0) (by decide +kernel) rfl rfl), ?_⟩
  refine List.forall_mem_cons.mpr ⟨zSX_of (s_iload_n (j := 3) (by decide +kernel) rfl rfl), ?_⟩
  refine List.forall_mem_cons.mpr ⟨zSX_of (s_iconst (by decide +kernel) rfl), ?_⟩
  refine List.forall_mem_cons.mpr ⟨zSX_of (s_iadd (by decide +kernel) rfl), ?_⟩
  refine List.forall_mem_cons.mpr ⟨s_sld (pc := 1150) S (by decide +kernel) rfl, ?_⟩
  refine List.forall_mem_cons.mpr ⟨zSX_of (s_aload_n (j := 0) (by decide +kernel) rfl rfl), ?_⟩
  refine List.forall_mem_cons.mpr ⟨zSX_of (s_iload_n (j := 3) (by decide +kernel) rfl rfl), ?_⟩
  refine List.forall_mem_cons.mpr ⟨zSX_of (s_iconst (by decide +kernel) rfl), ?_⟩
  refine List.forall_mem_cons.mpr ⟨zSX_of (s_iadd (by decide +kernel) rfl), ?_⟩
  refine List.forall_mem_cons.mpr ⟨s_sld (pc := 1155) S (by decide +kernel) rfl, ?_⟩
  refine List.forall_mem_cons.mpr ⟨zSX_of (s_aload_n (j := 0) (by decide +kernel) rfl rfl), ?_⟩
  refine List.forall_mem_cons.mpr ⟨zSX_of (s_iload_n (j := 3) (by decide +kernel) rfl rfl), ?_⟩
  refine List.forall_mem_cons.mpr ⟨zSX_of (s_iconst (by decide +kernel) rfl), ?_⟩
  refine List.forall_mem_cons.mpr ⟨zSX_of (s_iadd (by decide +kernel) rfl), ?_⟩
  refine List.forall_mem_cons.mpr ⟨s_sld (pc := 1160) S (by decide +kernel) rfl, ?_⟩
  refine List.forall_mem_cons.mpr ⟨zSX_of (s_aload_n (j := 0) (by decide +kernel) rfl rfl), ?_⟩
  refine List.forall_mem_cons.mpr ⟨zSX_of (s_iload_n (j := 3) (by decide +kernel) rfl rfl), ?_⟩
  refine List.forall_mem_cons.mpr ⟨zSX_of (s_iconst (by decide +kernel) rfl), ?_⟩
  refine List.forall_mem_cons.mpr ⟨zSX_of (s_iadd (by decide +kernel) rfl), ?_⟩
  refine List.forall_mem_cons.mpr ⟨s_sld (pc := 1165) S (by decide +kernel) rfl, ?_⟩
  refine List.forall_mem_cons.mpr ⟨zSX_of (s_callv (idx := 114) (k' := k_X9_judge) (T := TX9) (N := 54) rfl q6_55 q6_52 q6_53 q6_54 q1_10 de_X9_judge (by decide) (by decide +kernel) rfl), ?_⟩
  refine List.forall_mem_cons.mpr ⟨s_same (pc := 1169) (off := 557) (by decide +kernel) (by decide), ?_⟩
  refine List.forall_mem_cons.mpr ⟨zSX_of (s_iconst (by decide +kernel) rfl), ?_⟩
  refine List.forall_mem_cons.mpr ⟨zSX_of (s_zret rfl (by decide +kernel)), ?_⟩
  exact fun q hq => absurd hq List.not_mem_nil
set_option maxHeartbeats 2000000 in
/-- 23: judge -/
theorem law_23 {X : zX} {L : Nat} {sc : Nat → Int32} (S : zScr X L sc) (C : zCx X 1000 k_L_law) (E : zEx X k_L_law (fun o _ => o = some (sI 1))) {i : Int} (i0 : 0 ≤ i) (i6 : i + 6 ≤ L) (IH : ∀ h, Inv2 h → zJ X 1726 [some (sR 99), some (sR 0), some (sR 52), some (sI i)] [] h) (h : zH) (hI : Inv2 h) : zJ X 1121 [some (sR 99), some (sR 0), some (sR 52), some (sI i)] [] h := by
  have hL := S.2.2.2
  refine zrunX (t_law_23 S) C E [1726] 60 _ _ _ _ ?_
  refine And.intro (by omega) (And.intro (by omega) (And.intro (by omega) (And.intro (by omega) (And.intro (by omega) (And.intro (by omega) (And.intro (by omega) (And.intro (by omega) (?_))))))))
  refine zcall_i (d' := 999) (by omega) ((pr_judge (d := 999) (by omega) (i32_in _) (i32_in _) (i32_in _) (i32_in _)) h hI) ?_
  rintro _ g ⟨r, rfl, hm⟩
  refine And.intro (by omega) (And.intro (by omega) (And.intro (by omega) (And.intro (by omega) (And.intro (by omega) (And.intro (by omega) (And.intro (by omega) (And.intro (by omega) (?_))))))))
  refine zcall_i (d' := 999) (by omega) hm ?_
  rintro _ g' ⟨rfl, hI2⟩
  exact And.intro rfl (IH g' hI2)
def T_law_24 (L : Nat) (sc : Nat → Int32) : List (Nat × zO) := [(1174, o_aload 1175 1), (1175, o_aload 1176 0), (1176, o_iload 1177 3), (1177, o_const 1178 1), (1178, o_iadd 1179), (1179, o_sld L sc 1180), (1180, o_aload 1181 0), (1181, o_iload 1182 3), (1182, o_const 1183 2), (1183, o_iadd 1184), (1184, o_sld L sc 1185), (1185, o_aload 1186 0), (1186, o_iload 1187 3), (1187, o_const 1188 3), (1188, o_iadd 1189), (1189, o_sld L sc 1190), (1190, o_callv 3 8 k_X8_wet 1193), (1193, o_aload 1194 2), (1194, o_aload 1195 0), (1195, o_iload 1196 3), (1196, o_const 1197 1), (1197, o_iadd 1198), (1198, o_sld L sc 1199), (1199, o_aload 1200 0), (1200, o_iload 1201 3), (1201, o_const 1202 2), (1202, o_iadd 1203), (1203, o_sld L sc 1204), (1204, o_aload 1205 0), (1205, o_iload 1206 3), (1206, o_const 1207 3), (1207, o_iadd 1208), (1208, o_sld L sc 1209), (1209, o_callv 3 9 k_X9_wet 1212), (1212, o_same 1726), (1215, o_const 1216 0), (1216, o_zret)]
set_option maxRecDepth 20000 in
theorem t_law_24 {X : zX} {L : Nat} {sc : Nat → Int32} (S : zScr X L sc) : ∀ q ∈ T_law_24 L sc, zSX X k_L_law q.1 q.2 := by
  unfold T_law_24
  refine List.forall_mem_cons.mpr ⟨zSX_of (s_aload_n (j := 1) (by decide +kernel) rfl rfl), ?_⟩
  refine List.forall_mem_cons.mpr ⟨zSX_of (s_aload_n (j := 0) (by decide +kernel) rfl rfl), ?_⟩
  refine List.forall_mem_cons.mpr ⟨zSX_of (s_iload_n (j := 3) (by decide +kernel) rfl rfl), ?_⟩
  refine List.forall_mem_cons.mpr ⟨zSX_of (s_iconst (by decide +kernel) rfl), ?_⟩
  refine List.forall_mem_cons.mpr ⟨zSX_of (s_iadd (by decide +kernel) rfl), ?_⟩
  refine List.forall_mem_cons.mpr ⟨s_sld (pc := 1179) S (by decide +kernel) rfl, ?_⟩
  refine List.forall_mem_cons.mpr ⟨zSX_of (s_aload_n (j := 0) (by decide +kernel) rfl rfl), ?_⟩
  refine List.forall_mem_cons.mpr ⟨zSX_of (s_iload_n (j := 3) (by decide +kernel) rfl rfl), ?_⟩
  refine List.forall_mem_cons.mpr ⟨zSX_of (s_iconst (by decide +kernel) rfl), ?_⟩
  refine List.forall_mem_cons.mpr ⟨zSX_of (s_iadd (by decide +kernel) rfl), ?_⟩
  refine List.forall_mem_cons.mpr ⟨s_sld (pc := 1184) S (by decide +kernel) rfl, ?_⟩
  refine List.forall_mem_cons.mpr ⟨zSX_of (s_aload_n (j := 0) (by decide +kernel) rfl rfl), ?_⟩
  refine List.forall_mem_cons.mpr ⟨zSX_of (s_iload_n (j := 3) (by decide +kernel) rfl rfl), ?_⟩
  refine List.forall_mem_cons.mpr ⟨zSX_of (s_iconst (by decide +kernel) rfl), ?_⟩
  refine List.forall_mem_cons.mpr ⟨zSX_of (s_iadd (by decide +kernel) rfl), ?_⟩
  refine List.forall_mem_cons.mpr ⟨s_sld (pc := 1189) S (by decide +kernel) rfl, ?_⟩
  refine List.forall_mem_cons.mpr ⟨zSX_of (s_callv (idx := 115) (k' := k_X8_wet) (T := TX8) (N := 10) rfl q3_200 q3_197 q3_198 q3_199 q1_1 de_X8_wet (by decide) (by decide +kernel) rfl), ?_⟩
  refine List.forall_mem_cons.mpr ⟨zSX_of (s_aload_n (j := 2) (by decide +kernel) rfl rfl), ?_⟩
  refine List.forall_mem_cons.mpr ⟨zSX_of (s_aload_n (j := 0) (by decide +kernel) rfl rfl), ?_⟩
  refine List.forall_mem_cons.mpr ⟨zSX_of (s_iload_n (j := 3) (by decide +kernel) rfl rfl), ?_⟩
  refine List.forall_mem_cons.mpr ⟨zSX_of (s_iconst (by decide +kernel) rfl), ?_⟩
  refine List.forall_mem_cons.mpr ⟨zSX_of (s_iadd (by decide +kernel) rfl), ?_⟩
  refine List.forall_mem_cons.mpr ⟨s_sld (pc := 1198) S (by decide +kernel) rfl, ?_⟩
  refine List.forall_mem_cons.mpr ⟨zSX_of (s_aload_n (j := 0) (by decide +kernel) rfl rfl), ?_⟩
  refine List.forall_mem_cons.mpr ⟨zSX_of (s_iload_n (j := 3) (by decide +kernel) rfl rfl), ?_⟩
  refine List.forall_mem_cons.mpr ⟨zSX_of (s_iconst (by decide +kernel) rfl), ?_⟩
  refine List.forall_mem_cons.mpr ⟨zSX_of (s_iadd (by decide +kernel) rfl), ?_⟩
  refine List.forall_mem_cons.mpr ⟨s_sld (pc := 1203) S (by decide +kernel) rfl, ?_⟩
  refine List.forall_mem_cons.mpr ⟨zSX_of (s_aload_n (j := 0) (by decide +kernel) rfl rfl), ?_⟩
  refine List.forall_mem_cons.mpr ⟨zSX_of (s_iload_n (j := 3) (by decide +kernel) rfl rfl), ?_⟩
  refine List.forall_mem_cons.mpr ⟨zSX_of (s_iconst (by decide +kernel) rfl), ?_⟩
  refine List.forall_mem_cons.mpr ⟨zSX_of (s_iadd (by decide +kernel) rfl), ?_⟩
  refine List.forall_mem_cons.mpr ⟨s_sld (pc := 1208) S (by decide +kernel) rfl, ?_⟩
  refine List.forall_mem_cons.mpr ⟨zSX_of (s_callv (idx := 118) (k' := k_X9_wet) (T := TX9) (N := 54) rfl q6_67 q6_64 q6_65 q6_66 q1_10 de_X9_wet (by decide) (by decide +kernel) rfl), ?_⟩
  refine List.forall_mem_cons.mpr ⟨s_same (pc := 1212) (off := 514) (by decide +kernel) (by decide), ?_⟩
  refine List.forall_mem_cons.mpr ⟨zSX_of (s_iconst (by decide +kernel) rfl), ?_⟩
  refine List.forall_mem_cons.mpr ⟨zSX_of (s_zret rfl (by decide +kernel)), ?_⟩
  exact fun q hq => absurd hq List.not_mem_nil
set_option maxHeartbeats 2000000 in
/-- 24: wet -/
theorem law_24 {X : zX} {L : Nat} {sc : Nat → Int32} (S : zScr X L sc) (C : zCx X 1000 k_L_law) (E : zEx X k_L_law (fun o _ => o = some (sI 1))) {i : Int} (i0 : 0 ≤ i) (i6 : i + 6 ≤ L) (IH : ∀ h, Inv2 h → zJ X 1726 [some (sR 99), some (sR 0), some (sR 52), some (sI i)] [] h) (h : zH) (hI : Inv2 h) : zJ X 1174 [some (sR 99), some (sR 0), some (sR 52), some (sI i)] [] h := by
  have hL := S.2.2.2
  refine zrunX (t_law_24 S) C E [1726] 60 _ _ _ _ ?_
  refine And.intro (by omega) (And.intro (by omega) (And.intro (by omega) (And.intro (by omega) (And.intro (by omega) (And.intro (by omega) (?_))))))
  refine zcall_i (d' := 999) (by omega) ((pr_wet (d := 999) (by omega) (i32_in _) (i32_in _) (i32_in _)) h hI) ?_
  rintro _ g ⟨r, rfl, hm⟩
  refine And.intro (by omega) (And.intro (by omega) (And.intro (by omega) (And.intro (by omega) (And.intro (by omega) (And.intro (by omega) (?_))))))
  refine zcall_i (d' := 999) (by omega) hm ?_
  rintro _ g' ⟨rfl, hI2⟩
  exact And.intro rfl (IH g' hI2)
def T_law_25 (L : Nat) (sc : Nat → Int32) : List (Nat × zO) := [(1217, o_aload 1218 1), (1218, o_aload 1219 0), (1219, o_iload 1220 3), (1220, o_const 1221 1), (1221, o_iadd 1222), (1222, o_sld L sc 1223), (1223, o_aload 1224 0), (1224, o_iload 1225 3), (1225, o_const 1226 2), (1226, o_iadd 1227), (1227, o_sld L sc 1228), (1228, o_callv 2 8 k_X8_chance 1231), (1231, o_aload 1232 2), (1232, o_aload 1233 0), (1233, o_iload 1234 3), (1234, o_const 1235 1), (1235, o_iadd 1236), (1236, o_sld L sc 1237), (1237, o_aload 1238 0), (1238, o_iload 1239 3), (1239, o_const 1240 2), (1240, o_iadd 1241), (1241, o_sld L sc 1242), (1242, o_callv 2 9 k_X9_chance 1245), (1245, o_same 1726), (1248, o_const 1249 0), (1249, o_zret)]
set_option maxRecDepth 20000 in
theorem t_law_25 {X : zX} {L : Nat} {sc : Nat → Int32} (S : zScr X L sc) : ∀ q ∈ T_law_25 L sc, zSX X k_L_law q.1 q.2 := by
  unfold T_law_25
  refine List.forall_mem_cons.mpr ⟨zSX_of (s_aload_n (j := 1) (by decide +kernel) rfl rfl), ?_⟩
  refine List.forall_mem_cons.mpr ⟨zSX_of (s_aload_n (j := 0) (by decide +kernel) rfl rfl), ?_⟩
  refine List.forall_mem_cons.mpr ⟨zSX_of (s_iload_n (j := 3) (by decide +kernel) rfl rfl), ?_⟩
  refine List.forall_mem_cons.mpr ⟨zSX_of (s_iconst (by decide +kernel) rfl), ?_⟩
  refine List.forall_mem_cons.mpr ⟨zSX_of (s_iadd (by decide +kernel) rfl), ?_⟩
  refine List.forall_mem_cons.mpr ⟨s_sld (pc := 1222) S (by decide +kernel) rfl, ?_⟩
  refine List.forall_mem_cons.mpr ⟨zSX_of (s_aload_n (j := 0) (by decide +kernel) rfl rfl), ?_⟩
  refine List.forall_mem_cons.mpr ⟨zSX_of (s_iload_n (j := 3) (by decide +kernel) rfl rfl), ?_⟩
  refine List.forall_mem_cons.mpr ⟨zSX_of (s_iconst (by decide +kernel) rfl), ?_⟩
  refine List.forall_mem_cons.mpr ⟨zSX_of (s_iadd (by decide +kernel) rfl), ?_⟩
  refine List.forall_mem_cons.mpr ⟨s_sld (pc := 1227) S (by decide +kernel) rfl, ?_⟩
  refine List.forall_mem_cons.mpr ⟨zSX_of (s_callv (idx := 119) (k' := k_X8_chance) (T := TX8) (N := 10) rfl q3_209 q3_206 q3_207 q3_208 q1_1 de_X8_chance (by decide) (by decide +kernel) rfl), ?_⟩
  refine List.forall_mem_cons.mpr ⟨zSX_of (s_aload_n (j := 2) (by decide +kernel) rfl rfl), ?_⟩
  refine List.forall_mem_cons.mpr ⟨zSX_of (s_aload_n (j := 0) (by decide +kernel) rfl rfl), ?_⟩
  refine List.forall_mem_cons.mpr ⟨zSX_of (s_iload_n (j := 3) (by decide +kernel) rfl rfl), ?_⟩
  refine List.forall_mem_cons.mpr ⟨zSX_of (s_iconst (by decide +kernel) rfl), ?_⟩
  refine List.forall_mem_cons.mpr ⟨zSX_of (s_iadd (by decide +kernel) rfl), ?_⟩
  refine List.forall_mem_cons.mpr ⟨s_sld (pc := 1236) S (by decide +kernel) rfl, ?_⟩
  refine List.forall_mem_cons.mpr ⟨zSX_of (s_aload_n (j := 0) (by decide +kernel) rfl rfl), ?_⟩
  refine List.forall_mem_cons.mpr ⟨zSX_of (s_iload_n (j := 3) (by decide +kernel) rfl rfl), ?_⟩
  refine List.forall_mem_cons.mpr ⟨zSX_of (s_iconst (by decide +kernel) rfl), ?_⟩
  refine List.forall_mem_cons.mpr ⟨zSX_of (s_iadd (by decide +kernel) rfl), ?_⟩
  refine List.forall_mem_cons.mpr ⟨s_sld (pc := 1241) S (by decide +kernel) rfl, ?_⟩
  refine List.forall_mem_cons.mpr ⟨zSX_of (s_callv (idx := 122) (k' := k_X9_chance) (T := TX9) (N := 54) rfl q6_71 q6_68 q6_69 q6_70 q1_10 de_X9_chance (by decide) (by decide +kernel) rfl), ?_⟩
  refine List.forall_mem_cons.mpr ⟨s_same (pc := 1245) (off := 481) (by decide +kernel) (by decide), ?_⟩
  refine List.forall_mem_cons.mpr ⟨zSX_of (s_iconst (by decide +kernel) rfl), ?_⟩
  refine List.forall_mem_cons.mpr ⟨zSX_of (s_zret rfl (by decide +kernel)), ?_⟩
  exact fun q hq => absurd hq List.not_mem_nil
set_option maxHeartbeats 2000000 in
/-- 25: chance -/
theorem law_25 {X : zX} {L : Nat} {sc : Nat → Int32} (S : zScr X L sc) (C : zCx X 1000 k_L_law) (E : zEx X k_L_law (fun o _ => o = some (sI 1))) {i : Int} (i0 : 0 ≤ i) (i6 : i + 6 ≤ L) (IH : ∀ h, Inv2 h → zJ X 1726 [some (sR 99), some (sR 0), some (sR 52), some (sI i)] [] h) (h : zH) (hI : Inv2 h) : zJ X 1217 [some (sR 99), some (sR 0), some (sR 52), some (sI i)] [] h := by
  have hL := S.2.2.2
  refine zrunX (t_law_25 S) C E [1726] 60 _ _ _ _ ?_
  refine And.intro (by omega) (And.intro (by omega) (And.intro (by omega) (And.intro (by omega) (?_))))
  refine zcall_i (d' := 999) (by omega) ((pr_chance (d := 999) (by omega) (i32_in _) (i32_in _)) h hI) ?_
  rintro _ g ⟨r, rfl, hm⟩
  refine And.intro (by omega) (And.intro (by omega) (And.intro (by omega) (And.intro (by omega) (?_))))
  refine zcall_i (d' := 999) (by omega) hm ?_
  rintro _ g' ⟨rfl, hI2⟩
  exact And.intro rfl (IH g' hI2)
def T_law_26 (L : Nat) (sc : Nat → Int32) : List (Nat × zO) := [(1250, o_aload 1251 1), (1251, o_aload 1252 0), (1252, o_iload 1253 3), (1253, o_const 1254 1), (1254, o_iadd 1255), (1255, o_sld L sc 1256), (1256, o_callv 1 8 k_X8_mark 1259), (1259, o_aload 1260 2), (1260, o_aload 1261 0), (1261, o_iload 1262 3), (1262, o_const 1263 1), (1263, o_iadd 1264), (1264, o_sld L sc 1265), (1265, o_callv 1 9 k_X9_mark 1268), (1268, o_same 1726), (1271, o_const 1272 0), (1272, o_zret)]
set_option maxRecDepth 20000 in
theorem t_law_26 {X : zX} {L : Nat} {sc : Nat → Int32} (S : zScr X L sc) : ∀ q ∈ T_law_26 L sc, zSX X k_L_law q.1 q.2 := by
  unfold T_law_26
  refine List.forall_mem_cons.mpr ⟨zSX_of (s_aload_n (j := 1) (by decide +kernel) rfl rfl), ?_⟩
  refine List.forall_mem_cons.mpr ⟨zSX_of (s_aload_n (j := 0) (by decide +kernel) rfl rfl), ?_⟩
  refine List.forall_mem_cons.mpr ⟨zSX_of (s_iload_n (j := 3) (by decide +kernel) rfl rfl), ?_⟩
  refine List.forall_mem_cons.mpr ⟨zSX_of (s_iconst (by decide +kernel) rfl), ?_⟩
  refine List.forall_mem_cons.mpr ⟨zSX_of (s_iadd (by decide +kernel) rfl), ?_⟩
  refine List.forall_mem_cons.mpr ⟨s_sld (pc := 1255) S (by decide +kernel) rfl, ?_⟩
  refine List.forall_mem_cons.mpr ⟨zSX_of (s_callv (idx := 123) (k' := k_X8_mark) (T := TX8) (N := 10) rfl q3_213 q3_210 q3_211 q3_212 q1_1 de_X8_mark (by decide) (by decide +kernel) rfl), ?_⟩
  refine List.forall_mem_cons.mpr ⟨zSX_of (s_aload_n (j := 2) (by decide +kernel) rfl rfl), ?_⟩
  refine List.forall_mem_cons.mpr ⟨zSX_of (s_aload_n (j := 0) (by decide +kernel) rfl rfl), ?_⟩
  refine List.forall_mem_cons.mpr ⟨zSX_of (s_iload_n (j := 3) (by decide +kernel) rfl rfl), ?_⟩
  refine List.forall_mem_cons.mpr ⟨zSX_of (s_iconst (by decide +kernel) rfl), ?_⟩
  refine List.forall_mem_cons.mpr ⟨zSX_of (s_iadd (by decide +kernel) rfl), ?_⟩
  refine List.forall_mem_cons.mpr ⟨s_sld (pc := 1264) S (by decide +kernel) rfl, ?_⟩
  refine List.forall_mem_cons.mpr ⟨zSX_of (s_callv (idx := 126) (k' := k_X9_mark) (T := TX9) (N := 54) rfl q6_75 q6_72 q6_73 q6_74 q1_10 de_X9_mark (by decide) (by decide +kernel) rfl), ?_⟩
  refine List.forall_mem_cons.mpr ⟨s_same (pc := 1268) (off := 458) (by decide +kernel) (by decide), ?_⟩
  refine List.forall_mem_cons.mpr ⟨zSX_of (s_iconst (by decide +kernel) rfl), ?_⟩
  refine List.forall_mem_cons.mpr ⟨zSX_of (s_zret rfl (by decide +kernel)), ?_⟩
  exact fun q hq => absurd hq List.not_mem_nil
set_option maxHeartbeats 2000000 in
/-- 26: mark -/
theorem law_26 {X : zX} {L : Nat} {sc : Nat → Int32} (S : zScr X L sc) (C : zCx X 1000 k_L_law) (E : zEx X k_L_law (fun o _ => o = some (sI 1))) {i : Int} (i0 : 0 ≤ i) (i6 : i + 6 ≤ L) (IH : ∀ h, Inv2 h → zJ X 1726 [some (sR 99), some (sR 0), some (sR 52), some (sI i)] [] h) (h : zH) (hI : Inv2 h) : zJ X 1250 [some (sR 99), some (sR 0), some (sR 52), some (sI i)] [] h := by
  have hL := S.2.2.2
  refine zrunX (t_law_26 S) C E [1726] 60 _ _ _ _ ?_
  refine And.intro (by omega) (And.intro (by omega) (?_))
  refine zcall_i (d' := 999) (by omega) ((pr_mark (d := 999) (by omega) (i32_in _)) h hI) ?_
  rintro _ g ⟨r, rfl, hm⟩
  refine And.intro (by omega) (And.intro (by omega) (?_))
  refine zcall_i (d' := 999) (by omega) hm ?_
  rintro _ g' ⟨rfl, hI2⟩
  exact And.intro rfl (IH g' hI2)
def T_law_27 (L : Nat) (sc : Nat → Int32) : List (Nat × zO) := [(1273, o_aload 1274 1), (1274, o_aload 1275 0), (1275, o_iload 1276 3), (1276, o_const 1277 1), (1277, o_iadd 1278), (1278, o_sld L sc 1279), (1279, o_callv 1 8 k_X8_old 1282), (1282, o_aload 1283 2), (1283, o_aload 1284 0), (1284, o_iload 1285 3), (1285, o_const 1286 1), (1286, o_iadd 1287), (1287, o_sld L sc 1288), (1288, o_callv 1 9 k_X9_old 1291), (1291, o_same 1726), (1294, o_const 1295 0), (1295, o_zret)]
set_option maxRecDepth 20000 in
theorem t_law_27 {X : zX} {L : Nat} {sc : Nat → Int32} (S : zScr X L sc) : ∀ q ∈ T_law_27 L sc, zSX X k_L_law q.1 q.2 := by
  unfold T_law_27
  refine List.forall_mem_cons.mpr ⟨zSX_of (s_aload_n (j := 1) (by decide +kernel) rfl rfl), ?_⟩
  refine List.forall_mem_cons.mpr ⟨zSX_of (s_aload_n (j := 0) (by decide +kernel) rfl rfl), ?_⟩
  refine List.forall_mem_cons.mpr ⟨zSX_of (s_iload_n (j := 3) (by decide +kernel) rfl rfl), ?_⟩
  refine List.forall_mem_cons.mpr ⟨zSX_of (s_iconst (by decide +kernel) rfl), ?_⟩
  refine List.forall_mem_cons.mpr ⟨zSX_of (s_iadd (by decide +kernel) rfl), ?_⟩
  refine List.forall_mem_cons.mpr ⟨s_sld (pc := 1278) S (by decide +kernel) rfl, ?_⟩
  refine List.forall_mem_cons.mpr ⟨zSX_of (s_callv (idx := 127) (k' := k_X8_old) (T := TX8) (N := 10) rfl q3_217 q3_214 q3_215 q3_216 q1_1 de_X8_old (by decide) (by decide +kernel) rfl), ?_⟩
  refine List.forall_mem_cons.mpr ⟨zSX_of (s_aload_n (j := 2) (by decide +kernel) rfl rfl), ?_⟩
  refine List.forall_mem_cons.mpr ⟨zSX_of (s_aload_n (j := 0) (by decide +kernel) rfl rfl), ?_⟩
  refine List.forall_mem_cons.mpr ⟨zSX_of (s_iload_n (j := 3) (by decide +kernel) rfl rfl), ?_⟩
  refine List.forall_mem_cons.mpr ⟨zSX_of (s_iconst (by decide +kernel) rfl), ?_⟩
  refine List.forall_mem_cons.mpr ⟨zSX_of (s_iadd (by decide +kernel) rfl), ?_⟩
  refine List.forall_mem_cons.mpr ⟨s_sld (pc := 1287) S (by decide +kernel) rfl, ?_⟩
  refine List.forall_mem_cons.mpr ⟨zSX_of (s_callv (idx := 130) (k' := k_X9_old) (T := TX9) (N := 54) rfl q6_83 q6_80 q6_81 q6_82 q1_10 de_X9_old (by decide) (by decide +kernel) rfl), ?_⟩
  refine List.forall_mem_cons.mpr ⟨s_same (pc := 1291) (off := 435) (by decide +kernel) (by decide), ?_⟩
  refine List.forall_mem_cons.mpr ⟨zSX_of (s_iconst (by decide +kernel) rfl), ?_⟩
  refine List.forall_mem_cons.mpr ⟨zSX_of (s_zret rfl (by decide +kernel)), ?_⟩
  exact fun q hq => absurd hq List.not_mem_nil
set_option maxHeartbeats 2000000 in
/-- 27: old -/
theorem law_27 {X : zX} {L : Nat} {sc : Nat → Int32} (S : zScr X L sc) (C : zCx X 1000 k_L_law) (E : zEx X k_L_law (fun o _ => o = some (sI 1))) {i : Int} (i0 : 0 ≤ i) (i6 : i + 6 ≤ L) (IH : ∀ h, Inv2 h → zJ X 1726 [some (sR 99), some (sR 0), some (sR 52), some (sI i)] [] h) (h : zH) (hI : Inv2 h) : zJ X 1273 [some (sR 99), some (sR 0), some (sR 52), some (sI i)] [] h := by
  have hL := S.2.2.2
  refine zrunX (t_law_27 S) C E [1726] 60 _ _ _ _ ?_
  refine And.intro (by omega) (And.intro (by omega) (?_))
  refine zcall_i (d' := 999) (by omega) ((pr_old (d := 999) (by omega) (i32_in _)) h hI) ?_
  rintro _ g ⟨r, rfl, hm⟩
  refine And.intro (by omega) (And.intro (by omega) (?_))
  refine zcall_i (d' := 999) (by omega) hm ?_
  rintro _ g' ⟨rfl, hI2⟩
  exact And.intro rfl (IH g' hI2)
def T_law_28 (L : Nat) (sc : Nat → Int32) : List (Nat × zO) := [(1296, o_aload 1297 1), (1297, o_callv 0 8 k_X8_unmark 1300), (1300, o_aload 1301 2), (1301, o_callv 0 9 k_X9_unmark 1304), (1304, o_same 1726), (1307, o_const 1308 0), (1308, o_zret)]
set_option maxRecDepth 20000 in
theorem t_law_28 {X : zX} {L : Nat} {sc : Nat → Int32} (S : zScr X L sc) : ∀ q ∈ T_law_28 L sc, zSX X k_L_law q.1 q.2 := by
  unfold T_law_28
  refine List.forall_mem_cons.mpr ⟨zSX_of (s_aload_n (j := 1) (by decide +kernel) rfl rfl), ?_⟩
  refine List.forall_mem_cons.mpr ⟨zSX_of (s_callv (idx := 131) (k' := k_X8_unmark) (T := TX8) (N := 10) rfl q3_229 q3_226 q3_227 q3_228 q1_1 de_X8_unmark (by decide) (by decide +kernel) rfl), ?_⟩
  refine List.forall_mem_cons.mpr ⟨zSX_of (s_aload_n (j := 2) (by decide +kernel) rfl rfl), ?_⟩
  refine List.forall_mem_cons.mpr ⟨zSX_of (s_callv (idx := 134) (k' := k_X9_unmark) (T := TX9) (N := 54) rfl q6_79 q6_76 q6_77 q6_78 q1_10 de_X9_unmark (by decide) (by decide +kernel) rfl), ?_⟩
  refine List.forall_mem_cons.mpr ⟨s_same (pc := 1304) (off := 422) (by decide +kernel) (by decide), ?_⟩
  refine List.forall_mem_cons.mpr ⟨zSX_of (s_iconst (by decide +kernel) rfl), ?_⟩
  refine List.forall_mem_cons.mpr ⟨zSX_of (s_zret rfl (by decide +kernel)), ?_⟩
  exact fun q hq => absurd hq List.not_mem_nil
set_option maxHeartbeats 2000000 in
/-- 28: unmark -/
theorem law_28 {X : zX} {L : Nat} {sc : Nat → Int32} (S : zScr X L sc) (C : zCx X 1000 k_L_law) (E : zEx X k_L_law (fun o _ => o = some (sI 1))) {i : Int} (i0 : 0 ≤ i) (i6 : i + 6 ≤ L) (IH : ∀ h, Inv2 h → zJ X 1726 [some (sR 99), some (sR 0), some (sR 52), some (sI i)] [] h) (h : zH) (hI : Inv2 h) : zJ X 1296 [some (sR 99), some (sR 0), some (sR 52), some (sI i)] [] h := by
  have hL := S.2.2.2
  refine zrunX (t_law_28 S) C E [1726] 60 _ _ _ _ ?_
  refine zcall_i (d' := 999) (by omega) ((pr_unmark (d := 999)) h hI) ?_
  rintro _ g ⟨r, rfl, hm⟩
  refine zcall_i (d' := 999) (by omega) hm ?_
  rintro _ g' ⟨rfl, hI2⟩
  exact And.intro rfl (IH g' hI2)
def T_law_29 (L : Nat) (sc : Nat → Int32) : List (Nat × zO) := [(1309, o_aload 1310 1), (1310, o_callv 0 8 k_X8_undo 1313), (1313, o_aload 1314 2), (1314, o_callv 0 9 k_X9_undo 1317), (1317, o_same 1726), (1320, o_const 1321 0), (1321, o_zret)]
set_option maxRecDepth 20000 in
theorem t_law_29 {X : zX} {L : Nat} {sc : Nat → Int32} (S : zScr X L sc) : ∀ q ∈ T_law_29 L sc, zSX X k_L_law q.1 q.2 := by
  unfold T_law_29
  refine List.forall_mem_cons.mpr ⟨zSX_of (s_aload_n (j := 1) (by decide +kernel) rfl rfl), ?_⟩
  refine List.forall_mem_cons.mpr ⟨zSX_of (s_callv (idx := 135) (k' := k_X8_undo) (T := TX8) (N := 10) rfl q3_233 q3_230 q3_231 q3_232 q1_1 de_X8_undo (by decide) (by decide +kernel) rfl), ?_⟩
  refine List.forall_mem_cons.mpr ⟨zSX_of (s_aload_n (j := 2) (by decide +kernel) rfl rfl), ?_⟩
  refine List.forall_mem_cons.mpr ⟨zSX_of (s_callv (idx := 138) (k' := k_X9_undo) (T := TX9) (N := 54) rfl q5_38 q5_35 q5_36 q5_37 q1_10 de_X9_undo (by decide) (by decide +kernel) rfl), ?_⟩
  refine List.forall_mem_cons.mpr ⟨s_same (pc := 1317) (off := 409) (by decide +kernel) (by decide), ?_⟩
  refine List.forall_mem_cons.mpr ⟨zSX_of (s_iconst (by decide +kernel) rfl), ?_⟩
  refine List.forall_mem_cons.mpr ⟨zSX_of (s_zret rfl (by decide +kernel)), ?_⟩
  exact fun q hq => absurd hq List.not_mem_nil
set_option maxHeartbeats 2000000 in
/-- 29: undo -/
theorem law_29 {X : zX} {L : Nat} {sc : Nat → Int32} (S : zScr X L sc) (C : zCx X 1000 k_L_law) (E : zEx X k_L_law (fun o _ => o = some (sI 1))) {i : Int} (i0 : 0 ≤ i) (i6 : i + 6 ≤ L) (IH : ∀ h, Inv2 h → zJ X 1726 [some (sR 99), some (sR 0), some (sR 52), some (sI i)] [] h) (h : zH) (hI : Inv2 h) : zJ X 1309 [some (sR 99), some (sR 0), some (sR 52), some (sI i)] [] h := by
  have hL := S.2.2.2
  refine zrunX (t_law_29 S) C E [1726] 60 _ _ _ _ ?_
  refine zcall_i (d' := 999) (by omega) ((pr_undo (d := 999) (by omega)) h hI) ?_
  rintro _ g ⟨r, rfl, hm⟩
  refine zcall_i (d' := 999) (by omega) hm ?_
  rintro _ g' ⟨rfl, hI2⟩
  exact And.intro rfl (IH g' hI2)
def T_law_30 (L : Nat) (sc : Nat → Int32) : List (Nat × zO) := [(1322, o_aload 1323 1), (1323, o_callv 0 8 k_X8_redo 1326), (1326, o_aload 1327 2), (1327, o_callv 0 9 k_X9_redo 1330), (1330, o_same 1726), (1333, o_const 1334 0), (1334, o_zret)]
set_option maxRecDepth 20000 in
theorem t_law_30 {X : zX} {L : Nat} {sc : Nat → Int32} (S : zScr X L sc) : ∀ q ∈ T_law_30 L sc, zSX X k_L_law q.1 q.2 := by
  unfold T_law_30
  refine List.forall_mem_cons.mpr ⟨zSX_of (s_aload_n (j := 1) (by decide +kernel) rfl rfl), ?_⟩
  refine List.forall_mem_cons.mpr ⟨zSX_of (s_callv (idx := 139) (k' := k_X8_redo) (T := TX8) (N := 10) rfl q4_1 q3_238 q3_239 q4_0 q1_1 de_X8_redo (by decide) (by decide +kernel) rfl), ?_⟩
  refine List.forall_mem_cons.mpr ⟨zSX_of (s_aload_n (j := 2) (by decide +kernel) rfl rfl), ?_⟩
  refine List.forall_mem_cons.mpr ⟨zSX_of (s_callv (idx := 142) (k' := k_X9_redo) (T := TX9) (N := 54) rfl q5_42 q5_39 q5_40 q5_41 q1_10 de_X9_redo (by decide) (by decide +kernel) rfl), ?_⟩
  refine List.forall_mem_cons.mpr ⟨s_same (pc := 1330) (off := 396) (by decide +kernel) (by decide), ?_⟩
  refine List.forall_mem_cons.mpr ⟨zSX_of (s_iconst (by decide +kernel) rfl), ?_⟩
  refine List.forall_mem_cons.mpr ⟨zSX_of (s_zret rfl (by decide +kernel)), ?_⟩
  exact fun q hq => absurd hq List.not_mem_nil
set_option maxHeartbeats 2000000 in
/-- 30: redo -/
theorem law_30 {X : zX} {L : Nat} {sc : Nat → Int32} (S : zScr X L sc) (C : zCx X 1000 k_L_law) (E : zEx X k_L_law (fun o _ => o = some (sI 1))) {i : Int} (i0 : 0 ≤ i) (i6 : i + 6 ≤ L) (IH : ∀ h, Inv2 h → zJ X 1726 [some (sR 99), some (sR 0), some (sR 52), some (sI i)] [] h) (h : zH) (hI : Inv2 h) : zJ X 1322 [some (sR 99), some (sR 0), some (sR 52), some (sI i)] [] h := by
  have hL := S.2.2.2
  refine zrunX (t_law_30 S) C E [1726] 60 _ _ _ _ ?_
  refine zcall_i (d' := 999) (by omega) ((pr_redo (d := 999) (by omega)) h hI) ?_
  rintro _ g ⟨r, rfl, hm⟩
  refine zcall_i (d' := 999) (by omega) hm ?_
  rintro _ g' ⟨rfl, hI2⟩
  exact And.intro rfl (IH g' hI2)
def T_law_31 (L : Nat) (sc : Nat → Int32) : List (Nat × zO) := [(1335, o_aload 1336 1), (1336, o_aload 1337 0), (1337, o_iload 1338 3), (1338, o_const 1339 1), (1339, o_iadd 1340), (1340, o_sld L sc 1341), (1341, o_callv 1 8 k_X8_body 1344), (1344, o_aload 1345 2), (1345, o_aload 1346 0), (1346, o_iload 1347 3), (1347, o_const 1348 1), (1348, o_iadd 1349), (1349, o_sld L sc 1350), (1350, o_callv 1 9 k_X9_body 1353), (1353, o_same 1726), (1356, o_const 1357 0), (1357, o_zret)]
set_option maxRecDepth 20000 in
theorem t_law_31 {X : zX} {L : Nat} {sc : Nat → Int32} (S : zScr X L sc) : ∀ q ∈ T_law_31 L sc, zSX X k_L_law q.1 q.2 := by
  unfold T_law_31
  refine List.forall_mem_cons.mpr ⟨zSX_of (s_aload_n (j := 1) (by decide +kernel) rfl rfl), ?_⟩
  refine List.forall_mem_cons.mpr ⟨zSX_of (s_aload_n (j := 0) (by decide +kernel) rfl rfl), ?_⟩
  refine List.forall_mem_cons.mpr ⟨zSX_of (s_iload_n (j := 3) (by decide +kernel) rfl rfl), ?_⟩
  refine List.forall_mem_cons.mpr ⟨zSX_of (s_iconst (by decide +kernel) rfl), ?_⟩
  refine List.forall_mem_cons.mpr ⟨zSX_of (s_iadd (by decide +kernel) rfl), ?_⟩
  refine List.forall_mem_cons.mpr ⟨s_sld (pc := 1340) S (by decide +kernel) rfl, ?_⟩
  refine List.forall_mem_cons.mpr ⟨zSX_of (s_callv (idx := 143) (k' := k_X8_body) (T := TX8) (N := 10) rfl q4_9 q4_6 q4_7 q4_8 q1_1 de_X8_body (by decide) (by decide +kernel) rfl), ?_⟩
  refine List.forall_mem_cons.mpr ⟨zSX_of (s_aload_n (j := 2) (by decide +kernel) rfl rfl), ?_⟩
  refine List.forall_mem_cons.mpr ⟨zSX_of (s_aload_n (j := 0) (by decide +kernel) rfl rfl), ?_⟩
  refine List.forall_mem_cons.mpr ⟨zSX_of (s_iload_n (j := 3) (by decide +kernel) rfl rfl), ?_⟩
  refine List.forall_mem_cons.mpr ⟨zSX_of (s_iconst (by decide +kernel) rfl), ?_⟩
  refine List.forall_mem_cons.mpr ⟨zSX_of (s_iadd (by decide +kernel) rfl), ?_⟩
  refine List.forall_mem_cons.mpr ⟨s_sld (pc := 1349) S (by decide +kernel) rfl, ?_⟩
  refine List.forall_mem_cons.mpr ⟨zSX_of (s_callv (idx := 146) (k' := k_X9_body) (T := TX9) (N := 54) rfl q6_87 q6_84 q6_85 q6_86 q1_10 de_X9_body (by decide) (by decide +kernel) rfl), ?_⟩
  refine List.forall_mem_cons.mpr ⟨s_same (pc := 1353) (off := 373) (by decide +kernel) (by decide), ?_⟩
  refine List.forall_mem_cons.mpr ⟨zSX_of (s_iconst (by decide +kernel) rfl), ?_⟩
  refine List.forall_mem_cons.mpr ⟨zSX_of (s_zret rfl (by decide +kernel)), ?_⟩
  exact fun q hq => absurd hq List.not_mem_nil
set_option maxHeartbeats 2000000 in
/-- 31: body -/
theorem law_31 {X : zX} {L : Nat} {sc : Nat → Int32} (S : zScr X L sc) (C : zCx X 1000 k_L_law) (E : zEx X k_L_law (fun o _ => o = some (sI 1))) {i : Int} (i0 : 0 ≤ i) (i6 : i + 6 ≤ L) (IH : ∀ h, Inv2 h → zJ X 1726 [some (sR 99), some (sR 0), some (sR 52), some (sI i)] [] h) (h : zH) (hI : Inv2 h) : zJ X 1335 [some (sR 99), some (sR 0), some (sR 52), some (sI i)] [] h := by
  have hL := S.2.2.2
  refine zrunX (t_law_31 S) C E [1726] 60 _ _ _ _ ?_
  refine And.intro (by omega) (And.intro (by omega) (?_))
  refine zcall_i (d' := 999) (by omega) ((pr_body (d := 999) (by omega) (i32_in _)) h hI) ?_
  rintro _ g ⟨r, rfl, hm⟩
  refine And.intro (by omega) (And.intro (by omega) (?_))
  refine zcall_i (d' := 999) (by omega) hm ?_
  rintro _ g' ⟨rfl, hI2⟩
  exact And.intro rfl (IH g' hI2)
def T_law_32 (L : Nat) (sc : Nat → Int32) : List (Nat × zO) := [(1358, o_aload 1359 1), (1359, o_aload 1360 0), (1360, o_iload 1361 3), (1361, o_const 1362 1), (1362, o_iadd 1363), (1363, o_sld L sc 1364), (1364, o_aload 1365 0), (1365, o_iload 1366 3), (1366, o_const 1367 2), (1367, o_iadd 1368), (1368, o_sld L sc 1369), (1369, o_aload 1370 0), (1370, o_iload 1371 3), (1371, o_const 1372 3), (1372, o_iadd 1373), (1373, o_sld L sc 1374), (1374, o_callv 3 8 k_X8_act 1377), (1377, o_aload 1378 2), (1378, o_aload 1379 0), (1379, o_iload 1380 3), (1380, o_const 1381 1), (1381, o_iadd 1382), (1382, o_sld L sc 1383), (1383, o_aload 1384 0), (1384, o_iload 1385 3), (1385, o_const 1386 2), (1386, o_iadd 1387), (1387, o_sld L sc 1388), (1388, o_aload 1389 0), (1389, o_iload 1390 3), (1390, o_const 1391 3), (1391, o_iadd 1392), (1392, o_sld L sc 1393), (1393, o_callv 3 9 k_X9_act 1396), (1396, o_same 1726), (1399, o_const 1400 0), (1400, o_zret)]
set_option maxRecDepth 20000 in
theorem t_law_32 {X : zX} {L : Nat} {sc : Nat → Int32} (S : zScr X L sc) : ∀ q ∈ T_law_32 L sc, zSX X k_L_law q.1 q.2 := by
  unfold T_law_32
  refine List.forall_mem_cons.mpr ⟨zSX_of (s_aload_n (j := 1) (by decide +kernel) rfl rfl), ?_⟩
  refine List.forall_mem_cons.mpr ⟨zSX_of (s_aload_n (j := 0) (by decide +kernel) rfl rfl), ?_⟩
  refine List.forall_mem_cons.mpr ⟨zSX_of (s_iload_n (j := 3) (by decide +kernel) rfl rfl), ?_⟩
  refine List.forall_mem_cons.mpr ⟨zSX_of (s_iconst (by decide +kernel) rfl), ?_⟩
  refine List.forall_mem_cons.mpr ⟨zSX_of (s_iadd (by decide +kernel) rfl), ?_⟩
  refine List.forall_mem_cons.mpr ⟨s_sld (pc := 1363) S (by decide +kernel) rfl, ?_⟩
  refine List.forall_mem_cons.mpr ⟨zSX_of (s_aload_n (j := 0) (by decide +kernel) rfl rfl), ?_⟩
  refine List.forall_mem_cons.mpr ⟨zSX_of (s_iload_n (j := 3) (by decide +kernel) rfl rfl), ?_⟩
  refine List.forall_mem_cons.mpr ⟨zSX_of (s_iconst (by decide +kernel) rfl), ?_⟩
  refine List.forall_mem_cons.mpr ⟨zSX_of (s_iadd (by decide +kernel) rfl), ?_⟩
  refine List.forall_mem_cons.mpr ⟨s_sld (pc := 1368) S (by decide +kernel) rfl, ?_⟩
  refine List.forall_mem_cons.mpr ⟨zSX_of (s_aload_n (j := 0) (by decide +kernel) rfl rfl), ?_⟩
  refine List.forall_mem_cons.mpr ⟨zSX_of (s_iload_n (j := 3) (by decide +kernel) rfl rfl), ?_⟩
  refine List.forall_mem_cons.mpr ⟨zSX_of (s_iconst (by decide +kernel) rfl), ?_⟩
  refine List.forall_mem_cons.mpr ⟨zSX_of (s_iadd (by decide +kernel) rfl), ?_⟩
  refine List.forall_mem_cons.mpr ⟨s_sld (pc := 1373) S (by decide +kernel) rfl, ?_⟩
  refine List.forall_mem_cons.mpr ⟨zSX_of (s_callv (idx := 147) (k' := k_X8_act) (T := TX8) (N := 10) rfl q4_17 q4_14 q4_15 q4_16 q1_1 de_X8_act (by decide) (by decide +kernel) rfl), ?_⟩
  refine List.forall_mem_cons.mpr ⟨zSX_of (s_aload_n (j := 2) (by decide +kernel) rfl rfl), ?_⟩
  refine List.forall_mem_cons.mpr ⟨zSX_of (s_aload_n (j := 0) (by decide +kernel) rfl rfl), ?_⟩
  refine List.forall_mem_cons.mpr ⟨zSX_of (s_iload_n (j := 3) (by decide +kernel) rfl rfl), ?_⟩
  refine List.forall_mem_cons.mpr ⟨zSX_of (s_iconst (by decide +kernel) rfl), ?_⟩
  refine List.forall_mem_cons.mpr ⟨zSX_of (s_iadd (by decide +kernel) rfl), ?_⟩
  refine List.forall_mem_cons.mpr ⟨s_sld (pc := 1382) S (by decide +kernel) rfl, ?_⟩
  refine List.forall_mem_cons.mpr ⟨zSX_of (s_aload_n (j := 0) (by decide +kernel) rfl rfl), ?_⟩
  refine List.forall_mem_cons.mpr ⟨zSX_of (s_iload_n (j := 3) (by decide +kernel) rfl rfl), ?_⟩
  refine List.forall_mem_cons.mpr ⟨zSX_of (s_iconst (by decide +kernel) rfl), ?_⟩
  refine List.forall_mem_cons.mpr ⟨zSX_of (s_iadd (by decide +kernel) rfl), ?_⟩
  refine List.forall_mem_cons.mpr ⟨s_sld (pc := 1387) S (by decide +kernel) rfl, ?_⟩
  refine List.forall_mem_cons.mpr ⟨zSX_of (s_aload_n (j := 0) (by decide +kernel) rfl rfl), ?_⟩
  refine List.forall_mem_cons.mpr ⟨zSX_of (s_iload_n (j := 3) (by decide +kernel) rfl rfl), ?_⟩
  refine List.forall_mem_cons.mpr ⟨zSX_of (s_iconst (by decide +kernel) rfl), ?_⟩
  refine List.forall_mem_cons.mpr ⟨zSX_of (s_iadd (by decide +kernel) rfl), ?_⟩
  refine List.forall_mem_cons.mpr ⟨s_sld (pc := 1392) S (by decide +kernel) rfl, ?_⟩
  refine List.forall_mem_cons.mpr ⟨zSX_of (s_callv (idx := 150) (k' := k_X9_act) (T := TX9) (N := 54) rfl q6_92 q6_89 q6_90 q6_91 q1_10 de_X9_act (by decide) (by decide +kernel) rfl), ?_⟩
  refine List.forall_mem_cons.mpr ⟨s_same (pc := 1396) (off := 330) (by decide +kernel) (by decide), ?_⟩
  refine List.forall_mem_cons.mpr ⟨zSX_of (s_iconst (by decide +kernel) rfl), ?_⟩
  refine List.forall_mem_cons.mpr ⟨zSX_of (s_zret rfl (by decide +kernel)), ?_⟩
  exact fun q hq => absurd hq List.not_mem_nil
set_option maxHeartbeats 2000000 in
/-- 32: act -/
theorem law_32 {X : zX} {L : Nat} {sc : Nat → Int32} (S : zScr X L sc) (C : zCx X 1000 k_L_law) (E : zEx X k_L_law (fun o _ => o = some (sI 1))) {i : Int} (i0 : 0 ≤ i) (i6 : i + 6 ≤ L) (IH : ∀ h, Inv2 h → zJ X 1726 [some (sR 99), some (sR 0), some (sR 52), some (sI i)] [] h) (h : zH) (hI : Inv2 h) : zJ X 1358 [some (sR 99), some (sR 0), some (sR 52), some (sI i)] [] h := by
  have hL := S.2.2.2
  refine zrunX (t_law_32 S) C E [1726] 60 _ _ _ _ ?_
  refine And.intro (by omega) (And.intro (by omega) (And.intro (by omega) (And.intro (by omega) (And.intro (by omega) (And.intro (by omega) (?_))))))
  refine zcall_i (d' := 999) (by omega) ((pr_act (d := 999) (by omega) (i32_in _) (i32_in _)) h hI) ?_
  rintro _ g ⟨r, rfl, hm⟩
  refine And.intro (by omega) (And.intro (by omega) (And.intro (by omega) (And.intro (by omega) (And.intro (by omega) (And.intro (by omega) (?_))))))
  refine zcall_i (d' := 999) (by omega) hm ?_
  rintro _ g' ⟨rfl, hI2⟩
  exact And.intro rfl (IH g' hI2)
def T_law_33 (L : Nat) (sc : Nat → Int32) : List (Nat × zO) := [(1401, o_aload 1402 1), (1402, o_aload 1403 0), (1403, o_iload 1404 3), (1404, o_const 1405 1), (1405, o_iadd 1406), (1406, o_sld L sc 1407), (1407, o_callv 1 8 k_X8_trace 1410), (1410, o_aload 1411 2), (1411, o_aload 1412 0), (1412, o_iload 1413 3), (1413, o_const 1414 1), (1414, o_iadd 1415), (1415, o_sld L sc 1416), (1416, o_callv 1 9 k_X9_trace 1419), (1419, o_same 1726), (1422, o_const 1423 0), (1423, o_zret)]
set_option maxRecDepth 20000 in
theorem t_law_33 {X : zX} {L : Nat} {sc : Nat → Int32} (S : zScr X L sc) : ∀ q ∈ T_law_33 L sc, zSX X k_L_law q.1 q.2 := by
  unfold T_law_33
  refine List.forall_mem_cons.mpr ⟨zSX_of (s_aload_n (j := 1) (by decide +kernel) rfl rfl), ?_⟩
  refine List.forall_mem_cons.mpr ⟨zSX_of (s_aload_n (j := 0) (by decide +kernel) rfl rfl), ?_⟩
  refine List.forall_mem_cons.mpr ⟨zSX_of (s_iload_n (j := 3) (by decide +kernel) rfl rfl), ?_⟩
  refine List.forall_mem_cons.mpr ⟨zSX_of (s_iconst (by decide +kernel) rfl), ?_⟩
  refine List.forall_mem_cons.mpr ⟨zSX_of (s_iadd (by decide +kernel) rfl), ?_⟩
  refine List.forall_mem_cons.mpr ⟨s_sld (pc := 1406) S (by decide +kernel) rfl, ?_⟩
  refine List.forall_mem_cons.mpr ⟨zSX_of (s_callv (idx := 151) (k' := k_X8_trace) (T := TX8) (N := 10) rfl q4_46 q4_43 q4_44 q4_45 q1_1 de_X8_trace (by decide) (by decide +kernel) rfl), ?_⟩
  refine List.forall_mem_cons.mpr ⟨zSX_of (s_aload_n (j := 2) (by decide +kernel) rfl rfl), ?_⟩
  refine List.forall_mem_cons.mpr ⟨zSX_of (s_aload_n (j := 0) (by decide +kernel) rfl rfl), ?_⟩
  refine List.forall_mem_cons.mpr ⟨zSX_of (s_iload_n (j := 3) (by decide +kernel) rfl rfl), ?_⟩
  refine List.forall_mem_cons.mpr ⟨zSX_of (s_iconst (by decide +kernel) rfl), ?_⟩
  refine List.forall_mem_cons.mpr ⟨zSX_of (s_iadd (by decide +kernel) rfl), ?_⟩
  refine List.forall_mem_cons.mpr ⟨s_sld (pc := 1415) S (by decide +kernel) rfl, ?_⟩
  refine List.forall_mem_cons.mpr ⟨zSX_of (s_callv (idx := 154) (k' := k_X9_trace) (T := TX9) (N := 54) rfl q6_120 q6_117 q6_118 q6_119 q1_10 de_X9_trace (by decide) (by decide +kernel) rfl), ?_⟩
  refine List.forall_mem_cons.mpr ⟨s_same (pc := 1419) (off := 307) (by decide +kernel) (by decide), ?_⟩
  refine List.forall_mem_cons.mpr ⟨zSX_of (s_iconst (by decide +kernel) rfl), ?_⟩
  refine List.forall_mem_cons.mpr ⟨zSX_of (s_zret rfl (by decide +kernel)), ?_⟩
  exact fun q hq => absurd hq List.not_mem_nil
set_option maxHeartbeats 2000000 in
/-- 33: trace -/
theorem law_33 {X : zX} {L : Nat} {sc : Nat → Int32} (S : zScr X L sc) (C : zCx X 1000 k_L_law) (E : zEx X k_L_law (fun o _ => o = some (sI 1))) {i : Int} (i0 : 0 ≤ i) (i6 : i + 6 ≤ L) (IH : ∀ h, Inv2 h → zJ X 1726 [some (sR 99), some (sR 0), some (sR 52), some (sI i)] [] h) (h : zH) (hI : Inv2 h) : zJ X 1401 [some (sR 99), some (sR 0), some (sR 52), some (sI i)] [] h := by
  have hL := S.2.2.2
  refine zrunX (t_law_33 S) C E [1726] 60 _ _ _ _ ?_
  refine And.intro (by omega) (And.intro (by omega) (?_))
  refine zcall_i (d' := 999) (by omega) ((pr_trace (d := 999) (by omega) (i32_in _)) h hI) ?_
  rintro _ g ⟨r, rfl, hm⟩
  refine And.intro (by omega) (And.intro (by omega) (?_))
  refine zcall_i (d' := 999) (by omega) hm ?_
  rintro _ g' ⟨rfl, hI2⟩
  exact And.intro rfl (IH g' hI2)
def T_law_34 (L : Nat) (sc : Nat → Int32) : List (Nat × zO) := [(1424, o_aload 1425 1), (1425, o_aload 1426 0), (1426, o_iload 1427 3), (1427, o_const 1428 1), (1428, o_iadd 1429), (1429, o_sld L sc 1430), (1430, o_aload 1431 0), (1431, o_iload 1432 3), (1432, o_const 1433 2), (1433, o_iadd 1434), (1434, o_sld L sc 1435), (1435, o_callv 2 8 k_X8_keep 1438), (1438, o_aload 1439 2), (1439, o_aload 1440 0), (1440, o_iload 1441 3), (1441, o_const 1442 1), (1442, o_iadd 1443), (1443, o_sld L sc 1444), (1444, o_aload 1445 0), (1445, o_iload 1446 3), (1446, o_const 1447 2), (1447, o_iadd 1448), (1448, o_sld L sc 1449), (1449, o_callv 2 9 k_X9_keep 1452), (1452, o_same 1726), (1455, o_const 1456 0), (1456, o_zret)]
set_option maxRecDepth 20000 in
theorem t_law_34 {X : zX} {L : Nat} {sc : Nat → Int32} (S : zScr X L sc) : ∀ q ∈ T_law_34 L sc, zSX X k_L_law q.1 q.2 := by
  unfold T_law_34
  refine List.forall_mem_cons.mpr ⟨zSX_of (s_aload_n (j := 1) (by decide +kernel) rfl rfl), ?_⟩
  refine List.forall_mem_cons.mpr ⟨zSX_of (s_aload_n (j := 0) (by decide +kernel) rfl rfl), ?_⟩
  refine List.forall_mem_cons.mpr ⟨zSX_of (s_iload_n (j := 3) (by decide +kernel) rfl rfl), ?_⟩
  refine List.forall_mem_cons.mpr ⟨zSX_of (s_iconst (by decide +kernel) rfl), ?_⟩
  refine List.forall_mem_cons.mpr ⟨zSX_of (s_iadd (by decide +kernel) rfl), ?_⟩
  refine List.forall_mem_cons.mpr ⟨s_sld (pc := 1429) S (by decide +kernel) rfl, ?_⟩
  refine List.forall_mem_cons.mpr ⟨zSX_of (s_aload_n (j := 0) (by decide +kernel) rfl rfl), ?_⟩
  refine List.forall_mem_cons.mpr ⟨zSX_of (s_iload_n (j := 3) (by decide +kernel) rfl rfl), ?_⟩
  refine List.forall_mem_cons.mpr ⟨zSX_of (s_iconst (by decide +kernel) rfl), ?_⟩
  refine List.forall_mem_cons.mpr ⟨zSX_of (s_iadd (by decide +kernel) rfl), ?_⟩
  refine List.forall_mem_cons.mpr ⟨s_sld (pc := 1434) S (by decide +kernel) rfl, ?_⟩
  refine List.forall_mem_cons.mpr ⟨zSX_of (s_callv (idx := 155) (k' := k_X8_keep) (T := TX8) (N := 10) rfl q4_51 q4_48 q4_49 q4_50 q1_1 de_X8_keep (by decide) (by decide +kernel) rfl), ?_⟩
  refine List.forall_mem_cons.mpr ⟨zSX_of (s_aload_n (j := 2) (by decide +kernel) rfl rfl), ?_⟩
  refine List.forall_mem_cons.mpr ⟨zSX_of (s_aload_n (j := 0) (by decide +kernel) rfl rfl), ?_⟩
  refine List.forall_mem_cons.mpr ⟨zSX_of (s_iload_n (j := 3) (by decide +kernel) rfl rfl), ?_⟩
  refine List.forall_mem_cons.mpr ⟨zSX_of (s_iconst (by decide +kernel) rfl), ?_⟩
  refine List.forall_mem_cons.mpr ⟨zSX_of (s_iadd (by decide +kernel) rfl), ?_⟩
  refine List.forall_mem_cons.mpr ⟨s_sld (pc := 1443) S (by decide +kernel) rfl, ?_⟩
  refine List.forall_mem_cons.mpr ⟨zSX_of (s_aload_n (j := 0) (by decide +kernel) rfl rfl), ?_⟩
  refine List.forall_mem_cons.mpr ⟨zSX_of (s_iload_n (j := 3) (by decide +kernel) rfl rfl), ?_⟩
  refine List.forall_mem_cons.mpr ⟨zSX_of (s_iconst (by decide +kernel) rfl), ?_⟩
  refine List.forall_mem_cons.mpr ⟨zSX_of (s_iadd (by decide +kernel) rfl), ?_⟩
  refine List.forall_mem_cons.mpr ⟨s_sld (pc := 1448) S (by decide +kernel) rfl, ?_⟩
  refine List.forall_mem_cons.mpr ⟨zSX_of (s_callv (idx := 158) (k' := k_X9_keep) (T := TX9) (N := 54) rfl q6_124 q6_121 q6_122 q6_123 q1_10 de_X9_keep (by decide) (by decide +kernel) rfl), ?_⟩
  refine List.forall_mem_cons.mpr ⟨s_same (pc := 1452) (off := 274) (by decide +kernel) (by decide), ?_⟩
  refine List.forall_mem_cons.mpr ⟨zSX_of (s_iconst (by decide +kernel) rfl), ?_⟩
  refine List.forall_mem_cons.mpr ⟨zSX_of (s_zret rfl (by decide +kernel)), ?_⟩
  exact fun q hq => absurd hq List.not_mem_nil
set_option maxHeartbeats 2000000 in
/-- 34: keep -/
theorem law_34 {X : zX} {L : Nat} {sc : Nat → Int32} (S : zScr X L sc) (C : zCx X 1000 k_L_law) (E : zEx X k_L_law (fun o _ => o = some (sI 1))) {i : Int} (i0 : 0 ≤ i) (i6 : i + 6 ≤ L) (IH : ∀ h, Inv2 h → zJ X 1726 [some (sR 99), some (sR 0), some (sR 52), some (sI i)] [] h) (h : zH) (hI : Inv2 h) : zJ X 1424 [some (sR 99), some (sR 0), some (sR 52), some (sI i)] [] h := by
  have hL := S.2.2.2
  refine zrunX (t_law_34 S) C E [1726] 60 _ _ _ _ ?_
  refine And.intro (by omega) (And.intro (by omega) (And.intro (by omega) (And.intro (by omega) (?_))))
  refine zcall_i (d' := 999) (by omega) ((pr_keep (d := 999) (by omega) (i32_in _) (i32_in _)) h hI) ?_
  rintro _ g ⟨r, rfl, hm⟩
  refine And.intro (by omega) (And.intro (by omega) (And.intro (by omega) (And.intro (by omega) (?_))))
  refine zcall_i (d' := 999) (by omega) hm ?_
  rintro _ g' ⟨rfl, hI2⟩
  exact And.intro rfl (IH g' hI2)
def T_law_35 (L : Nat) (sc : Nat → Int32) : List (Nat × zO) := [(1457, o_aload 1458 1), (1458, o_aload 1459 0), (1459, o_iload 1460 3), (1460, o_const 1461 1), (1461, o_iadd 1462), (1462, o_sld L sc 1463), (1463, o_aload 1464 0), (1464, o_iload 1465 3), (1465, o_const 1466 2), (1466, o_iadd 1467), (1467, o_sld L sc 1468), (1468, o_aload 1469 0), (1469, o_iload 1470 3), (1470, o_const 1471 3), (1471, o_iadd 1472), (1472, o_sld L sc 1473), (1473, o_callv 3 8 k_X8_row 1476), (1476, o_aload 1477 2), (1477, o_aload 1478 0), (1478, o_iload 1479 3), (1479, o_const 1480 1), (1480, o_iadd 1481), (1481, o_sld L sc 1482), (1482, o_aload 1483 0), (1483, o_iload 1484 3), (1484, o_const 1485 2), (1485, o_iadd 1486), (1486, o_sld L sc 1487), (1487, o_aload 1488 0), (1488, o_iload 1489 3), (1489, o_const 1490 3), (1490, o_iadd 1491), (1491, o_sld L sc 1492), (1492, o_callv 3 9 k_X9_row 1495), (1495, o_same 1726), (1498, o_const 1499 0), (1499, o_zret)]
set_option maxRecDepth 20000 in
theorem t_law_35 {X : zX} {L : Nat} {sc : Nat → Int32} (S : zScr X L sc) : ∀ q ∈ T_law_35 L sc, zSX X k_L_law q.1 q.2 := by
  unfold T_law_35
  refine List.forall_mem_cons.mpr ⟨zSX_of (s_aload_n (j := 1) (by decide +kernel) rfl rfl), ?_⟩
  refine List.forall_mem_cons.mpr ⟨zSX_of (s_aload_n (j := 0) (by decide +kernel) rfl rfl), ?_⟩
  refine List.forall_mem_cons.mpr ⟨zSX_of (s_iload_n (j := 3) (by decide +kernel) rfl rfl), ?_⟩
  refine List.forall_mem_cons.mpr ⟨zSX_of (s_iconst (by decide +kernel) rfl), ?_⟩
  refine List.forall_mem_cons.mpr ⟨zSX_of (s_iadd (by decide +kernel) rfl), ?_⟩
  refine List.forall_mem_cons.mpr ⟨s_sld (pc := 1462) S (by decide +kernel) rfl, ?_⟩
  refine List.forall_mem_cons.mpr ⟨zSX_of (s_aload_n (j := 0) (by decide +kernel) rfl rfl), ?_⟩
  refine List.forall_mem_cons.mpr ⟨zSX_of (s_iload_n (j := 3) (by decide +kernel) rfl rfl), ?_⟩
  refine List.forall_mem_cons.mpr ⟨zSX_of (s_iconst (by decide +kernel) rfl), ?_⟩
  refine List.forall_mem_cons.mpr ⟨zSX_of (s_iadd (by decide +kernel) rfl), ?_⟩
  refine List.forall_mem_cons.mpr ⟨s_sld (pc := 1467) S (by decide +kernel) rfl, ?_⟩
  refine List.forall_mem_cons.mpr ⟨zSX_of (s_aload_n (j := 0) (by decide +kernel) rfl rfl), ?_⟩
  refine List.forall_mem_cons.mpr ⟨zSX_of (s_iload_n (j := 3) (by decide +kernel) rfl rfl), ?_⟩
  refine List.forall_mem_cons.mpr ⟨zSX_of (s_iconst (by decide +kernel) rfl), ?_⟩
  refine List.forall_mem_cons.mpr ⟨zSX_of (s_iadd (by decide +kernel) rfl), ?_⟩
  refine List.forall_mem_cons.mpr ⟨s_sld (pc := 1472) S (by decide +kernel) rfl, ?_⟩
  refine List.forall_mem_cons.mpr ⟨zSX_of (s_callv (idx := 159) (k' := k_X8_row) (T := TX8) (N := 10) rfl q4_60 q4_57 q4_58 q4_59 q1_1 de_X8_row (by decide) (by decide +kernel) rfl), ?_⟩
  refine List.forall_mem_cons.mpr ⟨zSX_of (s_aload_n (j := 2) (by decide +kernel) rfl rfl), ?_⟩
  refine List.forall_mem_cons.mpr ⟨zSX_of (s_aload_n (j := 0) (by decide +kernel) rfl rfl), ?_⟩
  refine List.forall_mem_cons.mpr ⟨zSX_of (s_iload_n (j := 3) (by decide +kernel) rfl rfl), ?_⟩
  refine List.forall_mem_cons.mpr ⟨zSX_of (s_iconst (by decide +kernel) rfl), ?_⟩
  refine List.forall_mem_cons.mpr ⟨zSX_of (s_iadd (by decide +kernel) rfl), ?_⟩
  refine List.forall_mem_cons.mpr ⟨s_sld (pc := 1481) S (by decide +kernel) rfl, ?_⟩
  refine List.forall_mem_cons.mpr ⟨zSX_of (s_aload_n (j := 0) (by decide +kernel) rfl rfl), ?_⟩
  refine List.forall_mem_cons.mpr ⟨zSX_of (s_iload_n (j := 3) (by decide +kernel) rfl rfl), ?_⟩
  refine List.forall_mem_cons.mpr ⟨zSX_of (s_iconst (by decide +kernel) rfl), ?_⟩
  refine List.forall_mem_cons.mpr ⟨zSX_of (s_iadd (by decide +kernel) rfl), ?_⟩
  refine List.forall_mem_cons.mpr ⟨s_sld (pc := 1486) S (by decide +kernel) rfl, ?_⟩
  refine List.forall_mem_cons.mpr ⟨zSX_of (s_aload_n (j := 0) (by decide +kernel) rfl rfl), ?_⟩
  refine List.forall_mem_cons.mpr ⟨zSX_of (s_iload_n (j := 3) (by decide +kernel) rfl rfl), ?_⟩
  refine List.forall_mem_cons.mpr ⟨zSX_of (s_iconst (by decide +kernel) rfl), ?_⟩
  refine List.forall_mem_cons.mpr ⟨zSX_of (s_iadd (by decide +kernel) rfl), ?_⟩
  refine List.forall_mem_cons.mpr ⟨s_sld (pc := 1491) S (by decide +kernel) rfl, ?_⟩
  refine List.forall_mem_cons.mpr ⟨zSX_of (s_callv (idx := 162) (k' := k_X9_row) (T := TX9) (N := 54) rfl q6_128 q6_125 q6_126 q6_127 q1_10 de_X9_row (by decide) (by decide +kernel) rfl), ?_⟩
  refine List.forall_mem_cons.mpr ⟨s_same (pc := 1495) (off := 231) (by decide +kernel) (by decide), ?_⟩
  refine List.forall_mem_cons.mpr ⟨zSX_of (s_iconst (by decide +kernel) rfl), ?_⟩
  refine List.forall_mem_cons.mpr ⟨zSX_of (s_zret rfl (by decide +kernel)), ?_⟩
  exact fun q hq => absurd hq List.not_mem_nil
set_option maxHeartbeats 2000000 in
/-- 35: row -/
theorem law_35 {X : zX} {L : Nat} {sc : Nat → Int32} (S : zScr X L sc) (C : zCx X 1000 k_L_law) (E : zEx X k_L_law (fun o _ => o = some (sI 1))) {i : Int} (i0 : 0 ≤ i) (i6 : i + 6 ≤ L) (IH : ∀ h, Inv2 h → zJ X 1726 [some (sR 99), some (sR 0), some (sR 52), some (sI i)] [] h) (h : zH) (hI : Inv2 h) : zJ X 1457 [some (sR 99), some (sR 0), some (sR 52), some (sI i)] [] h := by
  have hL := S.2.2.2
  refine zrunX (t_law_35 S) C E [1726] 60 _ _ _ _ ?_
  refine And.intro (by omega) (And.intro (by omega) (And.intro (by omega) (And.intro (by omega) (And.intro (by omega) (And.intro (by omega) (?_))))))
  refine zcall_i (d' := 999) (by omega) ((pr_row (d := 999) (by omega) (i32_in _) (i32_in _) (i32_in _)) h hI) ?_
  rintro _ g ⟨r, rfl, hm⟩
  refine And.intro (by omega) (And.intro (by omega) (And.intro (by omega) (And.intro (by omega) (And.intro (by omega) (And.intro (by omega) (?_))))))
  refine zcall_i (d' := 999) (by omega) hm ?_
  rintro _ g' ⟨rfl, hI2⟩
  exact And.intro rfl (IH g' hI2)
def T_law_36 (L : Nat) (sc : Nat → Int32) : List (Nat × zO) := [(1500, o_aload 1501 1), (1501, o_aload 1502 0), (1502, o_iload 1503 3), (1503, o_const 1504 1), (1504, o_iadd 1505), (1505, o_sld L sc 1506), (1506, o_aload 1507 0), (1507, o_iload 1508 3), (1508, o_const 1509 2), (1509, o_iadd 1510), (1510, o_sld L sc 1511), (1511, o_aload 1512 0), (1512, o_iload 1513 3), (1513, o_const 1514 3), (1514, o_iadd 1515), (1515, o_sld L sc 1516), (1516, o_i2l 1517), (1517, o_const 1519 32), (1519, o_lshl 1520), (1520, o_aload 1521 0), (1521, o_iload 1522 3), (1522, o_const 1523 4), (1523, o_iadd 1524), (1524, o_sld L sc 1525), (1525, o_i2l 1526), (1526, o_lconst 1529 (4294967295)), (1529, o_land 1530), (1530, o_lor 1531), (1531, o_callv 3 8 k_X8_put 1534), (1534, o_aload 1535 2), (1535, o_aload 1536 0), (1536, o_iload 1537 3), (1537, o_const 1538 1), (1538, o_iadd 1539), (1539, o_sld L sc 1540), (1540, o_aload 1541 0), (1541, o_iload 1542 3), (1542, o_const 1543 2), (1543, o_iadd 1544), (1544, o_sld L sc 1545), (1545, o_aload 1546 0), (1546, o_iload 1547 3), (1547, o_const 1548 3), (1548, o_iadd 1549), (1549, o_sld L sc 1550), (1550, o_i2l 1551), (1551, o_const 1553 32), (1553, o_lshl 1554), (1554, o_aload 1555 0), (1555, o_iload 1556 3), (1556, o_const 1557 4), (1557, o_iadd 1558), (1558, o_sld L sc 1559), (1559, o_i2l 1560), (1560, o_lconst 1563 (4294967295)), (1563, o_land 1564), (1564, o_lor 1565), (1565, o_callv 3 9 k_X9_put 1568), (1568, o_same 1726), (1571, o_const 1572 0), (1572, o_zret)]
set_option maxRecDepth 20000 in
theorem t_law_36 {X : zX} {L : Nat} {sc : Nat → Int32} (S : zScr X L sc) : ∀ q ∈ T_law_36 L sc, zSX X k_L_law q.1 q.2 := by
  unfold T_law_36
  refine List.forall_mem_cons.mpr ⟨zSX_of (s_aload_n (j := 1) (by decide +kernel) rfl rfl), ?_⟩
  refine List.forall_mem_cons.mpr ⟨zSX_of (s_aload_n (j := 0) (by decide +kernel) rfl rfl), ?_⟩
  refine List.forall_mem_cons.mpr ⟨zSX_of (s_iload_n (j := 3) (by decide +kernel) rfl rfl), ?_⟩
  refine List.forall_mem_cons.mpr ⟨zSX_of (s_iconst (by decide +kernel) rfl), ?_⟩
  refine List.forall_mem_cons.mpr ⟨zSX_of (s_iadd (by decide +kernel) rfl), ?_⟩
  refine List.forall_mem_cons.mpr ⟨s_sld (pc := 1505) S (by decide +kernel) rfl, ?_⟩
  refine List.forall_mem_cons.mpr ⟨zSX_of (s_aload_n (j := 0) (by decide +kernel) rfl rfl), ?_⟩
  refine List.forall_mem_cons.mpr ⟨zSX_of (s_iload_n (j := 3) (by decide +kernel) rfl rfl), ?_⟩
  refine List.forall_mem_cons.mpr ⟨zSX_of (s_iconst (by decide +kernel) rfl), ?_⟩
  refine List.forall_mem_cons.mpr ⟨zSX_of (s_iadd (by decide +kernel) rfl), ?_⟩
  refine List.forall_mem_cons.mpr ⟨s_sld (pc := 1510) S (by decide +kernel) rfl, ?_⟩
  refine List.forall_mem_cons.mpr ⟨zSX_of (s_aload_n (j := 0) (by decide +kernel) rfl rfl), ?_⟩
  refine List.forall_mem_cons.mpr ⟨zSX_of (s_iload_n (j := 3) (by decide +kernel) rfl rfl), ?_⟩
  refine List.forall_mem_cons.mpr ⟨zSX_of (s_iconst (by decide +kernel) rfl), ?_⟩
  refine List.forall_mem_cons.mpr ⟨zSX_of (s_iadd (by decide +kernel) rfl), ?_⟩
  refine List.forall_mem_cons.mpr ⟨s_sld (pc := 1515) S (by decide +kernel) rfl, ?_⟩
  refine List.forall_mem_cons.mpr ⟨zSX_of (s_i2l (by decide +kernel) rfl), ?_⟩
  refine List.forall_mem_cons.mpr ⟨zSX_of (s_bipush (by decide +kernel) (by decide) rfl), ?_⟩
  refine List.forall_mem_cons.mpr ⟨zSX_of (s_lshl (by decide +kernel) rfl), ?_⟩
  refine List.forall_mem_cons.mpr ⟨zSX_of (s_aload_n (j := 0) (by decide +kernel) rfl rfl), ?_⟩
  refine List.forall_mem_cons.mpr ⟨zSX_of (s_iload_n (j := 3) (by decide +kernel) rfl rfl), ?_⟩
  refine List.forall_mem_cons.mpr ⟨zSX_of (s_iconst (by decide +kernel) rfl), ?_⟩
  refine List.forall_mem_cons.mpr ⟨zSX_of (s_iadd (by decide +kernel) rfl), ?_⟩
  refine List.forall_mem_cons.mpr ⟨s_sld (pc := 1524) S (by decide +kernel) rfl, ?_⟩
  refine List.forall_mem_cons.mpr ⟨zSX_of (s_i2l (by decide +kernel) rfl), ?_⟩
  refine List.forall_mem_cons.mpr ⟨zSX_of (s_ldc2 (idx := 163) (y := (4294967295)) (by decide +kernel) q6_164 rfl), ?_⟩
  refine List.forall_mem_cons.mpr ⟨zSX_of (s_land (by decide +kernel) rfl), ?_⟩
  refine List.forall_mem_cons.mpr ⟨zSX_of (s_lor (by decide +kernel) rfl), ?_⟩
  refine List.forall_mem_cons.mpr ⟨zSX_of (s_callv (idx := 165) (k' := k_X8_put) (T := TX8) (N := 10) rfl q4_69 q4_66 q4_67 q4_68 q1_1 de_X8_put (by decide) (by decide +kernel) rfl), ?_⟩
  refine List.forall_mem_cons.mpr ⟨zSX_of (s_aload_n (j := 2) (by decide +kernel) rfl rfl), ?_⟩
  refine List.forall_mem_cons.mpr ⟨zSX_of (s_aload_n (j := 0) (by decide +kernel) rfl rfl), ?_⟩
  refine List.forall_mem_cons.mpr ⟨zSX_of (s_iload_n (j := 3) (by decide +kernel) rfl rfl), ?_⟩
  refine List.forall_mem_cons.mpr ⟨zSX_of (s_iconst (by decide +kernel) rfl), ?_⟩
  refine List.forall_mem_cons.mpr ⟨zSX_of (s_iadd (by decide +kernel) rfl), ?_⟩
  refine List.forall_mem_cons.mpr ⟨s_sld (pc := 1539) S (by decide +kernel) rfl, ?_⟩
  refine List.forall_mem_cons.mpr ⟨zSX_of (s_aload_n (j := 0) (by decide +kernel) rfl rfl), ?_⟩
  refine List.forall_mem_cons.mpr ⟨zSX_of (s_iload_n (j := 3) (by decide +kernel) rfl rfl), ?_⟩
  refine List.forall_mem_cons.mpr ⟨zSX_of (s_iconst (by decide +kernel) rfl), ?_⟩
  refine List.forall_mem_cons.mpr ⟨zSX_of (s_iadd (by decide +kernel) rfl), ?_⟩
  refine List.forall_mem_cons.mpr ⟨s_sld (pc := 1544) S (by decide +kernel) rfl, ?_⟩
  refine List.forall_mem_cons.mpr ⟨zSX_of (s_aload_n (j := 0) (by decide +kernel) rfl rfl), ?_⟩
  refine List.forall_mem_cons.mpr ⟨zSX_of (s_iload_n (j := 3) (by decide +kernel) rfl rfl), ?_⟩
  refine List.forall_mem_cons.mpr ⟨zSX_of (s_iconst (by decide +kernel) rfl), ?_⟩
  refine List.forall_mem_cons.mpr ⟨zSX_of (s_iadd (by decide +kernel) rfl), ?_⟩
  refine List.forall_mem_cons.mpr ⟨s_sld (pc := 1549) S (by decide +kernel) rfl, ?_⟩
  refine List.forall_mem_cons.mpr ⟨zSX_of (s_i2l (by decide +kernel) rfl), ?_⟩
  refine List.forall_mem_cons.mpr ⟨zSX_of (s_bipush (by decide +kernel) (by decide) rfl), ?_⟩
  refine List.forall_mem_cons.mpr ⟨zSX_of (s_lshl (by decide +kernel) rfl), ?_⟩
  refine List.forall_mem_cons.mpr ⟨zSX_of (s_aload_n (j := 0) (by decide +kernel) rfl rfl), ?_⟩
  refine List.forall_mem_cons.mpr ⟨zSX_of (s_iload_n (j := 3) (by decide +kernel) rfl rfl), ?_⟩
  refine List.forall_mem_cons.mpr ⟨zSX_of (s_iconst (by decide +kernel) rfl), ?_⟩
  refine List.forall_mem_cons.mpr ⟨zSX_of (s_iadd (by decide +kernel) rfl), ?_⟩
  refine List.forall_mem_cons.mpr ⟨s_sld (pc := 1558) S (by decide +kernel) rfl, ?_⟩
  refine List.forall_mem_cons.mpr ⟨zSX_of (s_i2l (by decide +kernel) rfl), ?_⟩
  refine List.forall_mem_cons.mpr ⟨zSX_of (s_ldc2 (idx := 163) (y := (4294967295)) (by decide +kernel) q6_164 rfl), ?_⟩
  refine List.forall_mem_cons.mpr ⟨zSX_of (s_land (by decide +kernel) rfl), ?_⟩
  refine List.forall_mem_cons.mpr ⟨zSX_of (s_lor (by decide +kernel) rfl), ?_⟩
  refine List.forall_mem_cons.mpr ⟨zSX_of (s_callv (idx := 169) (k' := k_X9_put) (T := TX9) (N := 54) rfl q6_132 q6_129 q6_130 q6_131 q1_10 de_X9_put (by decide) (by decide +kernel) rfl), ?_⟩
  refine List.forall_mem_cons.mpr ⟨s_same (pc := 1568) (off := 158) (by decide +kernel) (by decide), ?_⟩
  refine List.forall_mem_cons.mpr ⟨zSX_of (s_iconst (by decide +kernel) rfl), ?_⟩
  refine List.forall_mem_cons.mpr ⟨zSX_of (s_zret rfl (by decide +kernel)), ?_⟩
  exact fun q hq => absurd hq List.not_mem_nil
set_option maxHeartbeats 2000000 in
/-- 36: put -/
theorem law_36 {X : zX} {L : Nat} {sc : Nat → Int32} (S : zScr X L sc) (C : zCx X 1000 k_L_law) (E : zEx X k_L_law (fun o _ => o = some (sI 1))) {i : Int} (i0 : 0 ≤ i) (i6 : i + 6 ≤ L) (IH : ∀ h, Inv2 h → zJ X 1726 [some (sR 99), some (sR 0), some (sR 52), some (sI i)] [] h) (h : zH) (hI : Inv2 h) : zJ X 1500 [some (sR 99), some (sR 0), some (sR 52), some (sI i)] [] h := by
  have hL := S.2.2.2
  refine zrunX (t_law_36 S) C E [1726] 60 _ _ _ _ ?_
  refine And.intro (by omega) (And.intro (by omega) (And.intro (by omega) (And.intro (by omega) (And.intro (by omega) (And.intro (by omega) (And.intro (by omega) (And.intro (by omega) (?_))))))))
  refine zcall_i (d' := 999) (by omega) ((pr_put (d := 999) (by omega) (i32_in _) (i32_in _)) h hI) ?_
  rintro _ g ⟨r, rfl, hm⟩
  refine And.intro (by omega) (And.intro (by omega) (And.intro (by omega) (And.intro (by omega) (And.intro (by omega) (And.intro (by omega) (And.intro (by omega) (And.intro (by omega) (?_))))))))
  refine zcall_i (d' := 999) (by omega) hm ?_
  rintro _ g' ⟨rfl, hI2⟩
  exact And.intro rfl (IH g' hI2)
def T_law_37 (L : Nat) (sc : Nat → Int32) : List (Nat × zO) := [(1573, o_aload 1574 1), (1574, o_aload 1575 0), (1575, o_iload 1576 3), (1576, o_const 1577 1), (1577, o_iadd 1578), (1578, o_sld L sc 1579), (1579, o_aload 1580 0), (1580, o_iload 1581 3), (1581, o_const 1582 2), (1582, o_iadd 1583), (1583, o_sld L sc 1584), (1584, o_callv 2 8 k_X8_element 1587), (1587, o_aload 1588 2), (1588, o_aload 1589 0), (1589, o_iload 1590 3), (1590, o_const 1591 1), (1591, o_iadd 1592), (1592, o_sld L sc 1593), (1593, o_aload 1594 0), (1594, o_iload 1595 3), (1595, o_const 1596 2), (1596, o_iadd 1597), (1597, o_sld L sc 1598), (1598, o_callv 2 9 k_X9_element 1601), (1601, o_lcmp 1602), (1602, o_if_eq 1726 1605), (1605, o_const 1606 0), (1606, o_zret)]
set_option maxRecDepth 20000 in
theorem t_law_37 {X : zX} {L : Nat} {sc : Nat → Int32} (S : zScr X L sc) : ∀ q ∈ T_law_37 L sc, zSX X k_L_law q.1 q.2 := by
  unfold T_law_37
  refine List.forall_mem_cons.mpr ⟨zSX_of (s_aload_n (j := 1) (by decide +kernel) rfl rfl), ?_⟩
  refine List.forall_mem_cons.mpr ⟨zSX_of (s_aload_n (j := 0) (by decide +kernel) rfl rfl), ?_⟩
  refine List.forall_mem_cons.mpr ⟨zSX_of (s_iload_n (j := 3) (by decide +kernel) rfl rfl), ?_⟩
  refine List.forall_mem_cons.mpr ⟨zSX_of (s_iconst (by decide +kernel) rfl), ?_⟩
  refine List.forall_mem_cons.mpr ⟨zSX_of (s_iadd (by decide +kernel) rfl), ?_⟩
  refine List.forall_mem_cons.mpr ⟨s_sld (pc := 1578) S (by decide +kernel) rfl, ?_⟩
  refine List.forall_mem_cons.mpr ⟨zSX_of (s_aload_n (j := 0) (by decide +kernel) rfl rfl), ?_⟩
  refine List.forall_mem_cons.mpr ⟨zSX_of (s_iload_n (j := 3) (by decide +kernel) rfl rfl), ?_⟩
  refine List.forall_mem_cons.mpr ⟨zSX_of (s_iconst (by decide +kernel) rfl), ?_⟩
  refine List.forall_mem_cons.mpr ⟨zSX_of (s_iadd (by decide +kernel) rfl), ?_⟩
  refine List.forall_mem_cons.mpr ⟨s_sld (pc := 1583) S (by decide +kernel) rfl, ?_⟩
  refine List.forall_mem_cons.mpr ⟨zSX_of (s_callv (idx := 170) (k' := k_X8_element) (T := TX8) (N := 10) rfl q4_81 q4_78 q4_79 q4_80 q1_1 de_X8_element (by decide) (by decide +kernel) rfl), ?_⟩
  refine List.forall_mem_cons.mpr ⟨zSX_of (s_aload_n (j := 2) (by decide +kernel) rfl rfl), ?_⟩
  refine List.forall_mem_cons.mpr ⟨zSX_of (s_aload_n (j := 0) (by decide +kernel) rfl rfl), ?_⟩
  refine List.forall_mem_cons.mpr ⟨zSX_of (s_iload_n (j := 3) (by decide +kernel) rfl rfl), ?_⟩
  refine List.forall_mem_cons.mpr ⟨zSX_of (s_iconst (by decide +kernel) rfl), ?_⟩
  refine List.forall_mem_cons.mpr ⟨zSX_of (s_iadd (by decide +kernel) rfl), ?_⟩
  refine List.forall_mem_cons.mpr ⟨s_sld (pc := 1592) S (by decide +kernel) rfl, ?_⟩
  refine List.forall_mem_cons.mpr ⟨zSX_of (s_aload_n (j := 0) (by decide +kernel) rfl rfl), ?_⟩
  refine List.forall_mem_cons.mpr ⟨zSX_of (s_iload_n (j := 3) (by decide +kernel) rfl rfl), ?_⟩
  refine List.forall_mem_cons.mpr ⟨zSX_of (s_iconst (by decide +kernel) rfl), ?_⟩
  refine List.forall_mem_cons.mpr ⟨zSX_of (s_iadd (by decide +kernel) rfl), ?_⟩
  refine List.forall_mem_cons.mpr ⟨s_sld (pc := 1597) S (by decide +kernel) rfl, ?_⟩
  refine List.forall_mem_cons.mpr ⟨zSX_of (s_callv (idx := 174) (k' := k_X9_element) (T := TX9) (N := 54) rfl q6_143 q6_140 q6_141 q6_142 q1_10 de_X9_element (by decide) (by decide +kernel) rfl), ?_⟩
  refine List.forall_mem_cons.mpr ⟨zSX_of (s_lcmp (by decide +kernel) rfl), ?_⟩
  refine List.forall_mem_cons.mpr ⟨zSX_of (s_if_eq (off := 124) (by decide +kernel) (by decide) rfl), ?_⟩
  refine List.forall_mem_cons.mpr ⟨zSX_of (s_iconst (by decide +kernel) rfl), ?_⟩
  refine List.forall_mem_cons.mpr ⟨zSX_of (s_zret rfl (by decide +kernel)), ?_⟩
  exact fun q hq => absurd hq List.not_mem_nil
set_option maxHeartbeats 2000000 in
/-- 37: element -/
theorem law_37 {X : zX} {L : Nat} {sc : Nat → Int32} (S : zScr X L sc) (C : zCx X 1000 k_L_law) (E : zEx X k_L_law (fun o _ => o = some (sI 1))) {i : Int} (i0 : 0 ≤ i) (i6 : i + 6 ≤ L) (IH : ∀ h, Inv2 h → zJ X 1726 [some (sR 99), some (sR 0), some (sR 52), some (sI i)] [] h) (h : zH) (hI : Inv2 h) : zJ X 1573 [some (sR 99), some (sR 0), some (sR 52), some (sI i)] [] h := by
  have hL := S.2.2.2
  refine zrunX (t_law_37 S) C E [1726] 60 _ _ _ _ ?_
  refine And.intro (by omega) (And.intro (by omega) (And.intro (by omega) (And.intro (by omega) (?_))))
  refine zcall_i (d' := 999) (by omega) ((pr_element (d := 999) (by omega) (i32_in _) (i32_in _)) h hI) ?_
  rintro _ g ⟨r, rfl, hm⟩
  refine And.intro (by omega) (And.intro (by omega) (And.intro (by omega) (And.intro (by omega) (?_))))
  refine zcall_i (d' := 999) (by omega) hm ?_
  rintro _ g' ⟨rfl, hI2⟩
  refine And.intro (fun z => absurd z Int64.lt_irrefl) (And.intro (fun _ => ?_) (fun z => absurd z Int64.lt_irrefl))
  exact And.intro (by decide) (And.intro (fun _ => IH g' hI2) (fun z => absurd rfl z))
def T_law_38 (L : Nat) (sc : Nat → Int32) : List (Nat × zO) := [(1607, o_aload 1608 1), (1608, o_aload 1609 0), (1609, o_iload 1610 3), (1610, o_const 1611 1), (1611, o_iadd 1612), (1612, o_sld L sc 1613), (1613, o_aload 1614 0), (1614, o_iload 1615 3), (1615, o_const 1616 2), (1616, o_iadd 1617), (1617, o_sld L sc 1618), (1618, o_aload 1619 0), (1619, o_iload 1620 3), (1620, o_const 1621 3), (1621, o_iadd 1622), (1622, o_sld L sc 1623), (1623, o_aload 1624 0), (1624, o_iload 1625 3), (1625, o_const 1626 4), (1626, o_iadd 1627), (1627, o_sld L sc 1628), (1628, o_aload 1629 0), (1629, o_iload 1630 3), (1630, o_const 1631 5), (1631, o_iadd 1632), (1632, o_sld L sc 1633), (1633, o_callv 5 8 k_X8_shift 1636), (1636, o_aload 1637 2), (1637, o_aload 1638 0), (1638, o_iload 1639 3), (1639, o_const 1640 1), (1640, o_iadd 1641), (1641, o_sld L sc 1642), (1642, o_aload 1643 0), (1643, o_iload 1644 3), (1644, o_const 1645 2), (1645, o_iadd 1646), (1646, o_sld L sc 1647), (1647, o_aload 1648 0), (1648, o_iload 1649 3), (1649, o_const 1650 3), (1650, o_iadd 1651), (1651, o_sld L sc 1652), (1652, o_aload 1653 0), (1653, o_iload 1654 3), (1654, o_const 1655 4), (1655, o_iadd 1656), (1656, o_sld L sc 1657), (1657, o_aload 1658 0), (1658, o_iload 1659 3), (1659, o_const 1660 5), (1660, o_iadd 1661), (1661, o_sld L sc 1662), (1662, o_callv 5 9 k_X9_shift 1665), (1665, o_same 1726), (1668, o_const 1669 0), (1669, o_zret)]
set_option maxRecDepth 20000 in
theorem t_law_38 {X : zX} {L : Nat} {sc : Nat → Int32} (S : zScr X L sc) : ∀ q ∈ T_law_38 L sc, zSX X k_L_law q.1 q.2 := by
  unfold T_law_38
  refine List.forall_mem_cons.mpr ⟨zSX_of (s_aload_n (j := 1) (by decide +kernel) rfl rfl), ?_⟩
  refine List.forall_mem_cons.mpr ⟨zSX_of (s_aload_n (j := 0) (by decide +kernel) rfl rfl), ?_⟩
  refine List.forall_mem_cons.mpr ⟨zSX_of (s_iload_n (j := 3) (by decide +kernel) rfl rfl), ?_⟩
  refine List.forall_mem_cons.mpr ⟨zSX_of (s_iconst (by decide +kernel) rfl), ?_⟩
  refine List.forall_mem_cons.mpr ⟨zSX_of (s_iadd (by decide +kernel) rfl), ?_⟩
  refine List.forall_mem_cons.mpr ⟨s_sld (pc := 1612) S (by decide +kernel) rfl, ?_⟩
  refine List.forall_mem_cons.mpr ⟨zSX_of (s_aload_n (j := 0) (by decide +kernel) rfl rfl), ?_⟩
  refine List.forall_mem_cons.mpr ⟨zSX_of (s_iload_n (j := 3) (by decide +kernel) rfl rfl), ?_⟩
  refine List.forall_mem_cons.mpr ⟨zSX_of (s_iconst (by decide +kernel) rfl), ?_⟩
  refine List.forall_mem_cons.mpr ⟨zSX_of (s_iadd (by decide +kernel) rfl), ?_⟩
  refine List.forall_mem_cons.mpr ⟨s_sld (pc := 1617) S (by decide +kernel) rfl, ?_⟩
  refine List.forall_mem_cons.mpr ⟨zSX_of (s_aload_n (j := 0) (by decide +kernel) rfl rfl), ?_⟩
  refine List.forall_mem_cons.mpr ⟨zSX_of (s_iload_n (j := 3) (by decide +kernel) rfl rfl), ?_⟩
  refine List.forall_mem_cons.mpr ⟨zSX_of (s_iconst (by decide +kernel) rfl), ?_⟩
  refine List.forall_mem_cons.mpr ⟨zSX_of (s_iadd (by decide +kernel) rfl), ?_⟩
  refine List.forall_mem_cons.mpr ⟨s_sld (pc := 1622) S (by decide +kernel) rfl, ?_⟩
  refine List.forall_mem_cons.mpr ⟨zSX_of (s_aload_n (j := 0) (by decide +kernel) rfl rfl), ?_⟩
  refine List.forall_mem_cons.mpr ⟨zSX_of (s_iload_n (j := 3) (by decide +kernel) rfl rfl), ?_⟩
  refine List.forall_mem_cons.mpr ⟨zSX_of (s_iconst (by decide +kernel) rfl), ?_⟩
  refine List.forall_mem_cons.mpr ⟨zSX_of (s_iadd (by decide +kernel) rfl), ?_⟩
  refine List.forall_mem_cons.mpr ⟨s_sld (pc := 1627) S (by decide +kernel) rfl, ?_⟩
  refine List.forall_mem_cons.mpr ⟨zSX_of (s_aload_n (j := 0) (by decide +kernel) rfl rfl), ?_⟩
  refine List.forall_mem_cons.mpr ⟨zSX_of (s_iload_n (j := 3) (by decide +kernel) rfl rfl), ?_⟩
  refine List.forall_mem_cons.mpr ⟨zSX_of (s_iconst (by decide +kernel) rfl), ?_⟩
  refine List.forall_mem_cons.mpr ⟨zSX_of (s_iadd (by decide +kernel) rfl), ?_⟩
  refine List.forall_mem_cons.mpr ⟨s_sld (pc := 1632) S (by decide +kernel) rfl, ?_⟩
  refine List.forall_mem_cons.mpr ⟨zSX_of (s_callv (idx := 175) (k' := k_X8_shift) (T := TX8) (N := 10) rfl q4_86 q4_83 q4_84 q4_85 q1_1 de_X8_shift (by decide) (by decide +kernel) rfl), ?_⟩
  refine List.forall_mem_cons.mpr ⟨zSX_of (s_aload_n (j := 2) (by decide +kernel) rfl rfl), ?_⟩
  refine List.forall_mem_cons.mpr ⟨zSX_of (s_aload_n (j := 0) (by decide +kernel) rfl rfl), ?_⟩
  refine List.forall_mem_cons.mpr ⟨zSX_of (s_iload_n (j := 3) (by decide +kernel) rfl rfl), ?_⟩
  refine List.forall_mem_cons.mpr ⟨zSX_of (s_iconst (by decide +kernel) rfl), ?_⟩
  refine List.forall_mem_cons.mpr ⟨zSX_of (s_iadd (by decide +kernel) rfl), ?_⟩
  refine List.forall_mem_cons.mpr ⟨s_sld (pc := 1641) S (by decide +kernel) rfl, ?_⟩
  refine List.forall_mem_cons.mpr ⟨zSX_of (s_aload_n (j := 0) (by decide +kernel) rfl rfl), ?_⟩
  refine List.forall_mem_cons.mpr ⟨zSX_of (s_iload_n (j := 3) (by decide +kernel) rfl rfl), ?_⟩
  refine List.forall_mem_cons.mpr ⟨zSX_of (s_iconst (by decide +kernel) rfl), ?_⟩
  refine List.forall_mem_cons.mpr ⟨zSX_of (s_iadd (by decide +kernel) rfl), ?_⟩
  refine List.forall_mem_cons.mpr ⟨s_sld (pc := 1646) S (by decide +kernel) rfl, ?_⟩
  refine List.forall_mem_cons.mpr ⟨zSX_of (s_aload_n (j := 0) (by decide +kernel) rfl rfl), ?_⟩
  refine List.forall_mem_cons.mpr ⟨zSX_of (s_iload_n (j := 3) (by decide +kernel) rfl rfl), ?_⟩
  refine List.forall_mem_cons.mpr ⟨zSX_of (s_iconst (by decide +kernel) rfl), ?_⟩
  refine List.forall_mem_cons.mpr ⟨zSX_of (s_iadd (by decide +kernel) rfl), ?_⟩
  refine List.forall_mem_cons.mpr ⟨s_sld (pc := 1651) S (by decide +kernel) rfl, ?_⟩
  refine List.forall_mem_cons.mpr ⟨zSX_of (s_aload_n (j := 0) (by decide +kernel) rfl rfl), ?_⟩
  refine List.forall_mem_cons.mpr ⟨zSX_of (s_iload_n (j := 3) (by decide +kernel) rfl rfl), ?_⟩
  refine List.forall_mem_cons.mpr ⟨zSX_of (s_iconst (by decide +kernel) rfl), ?_⟩
  refine List.forall_mem_cons.mpr ⟨zSX_of (s_iadd (by decide +kernel) rfl), ?_⟩
  refine List.forall_mem_cons.mpr ⟨s_sld (pc := 1656) S (by decide +kernel) rfl, ?_⟩
  refine List.forall_mem_cons.mpr ⟨zSX_of (s_aload_n (j := 0) (by decide +kernel) rfl rfl), ?_⟩
  refine List.forall_mem_cons.mpr ⟨zSX_of (s_iload_n (j := 3) (by decide +kernel) rfl rfl), ?_⟩
  refine List.forall_mem_cons.mpr ⟨zSX_of (s_iconst (by decide +kernel) rfl), ?_⟩
  refine List.forall_mem_cons.mpr ⟨zSX_of (s_iadd (by decide +kernel) rfl), ?_⟩
  refine List.forall_mem_cons.mpr ⟨s_sld (pc := 1661) S (by decide +kernel) rfl, ?_⟩
  refine List.forall_mem_cons.mpr ⟨zSX_of (s_callv (idx := 178) (k' := k_X9_shift) (T := TX9) (N := 54) rfl q6_148 q6_145 q6_146 q6_147 q1_10 de_X9_shift (by decide) (by decide +kernel) rfl), ?_⟩
  refine List.forall_mem_cons.mpr ⟨s_same (pc := 1665) (off := 61) (by decide +kernel) (by decide), ?_⟩
  refine List.forall_mem_cons.mpr ⟨zSX_of (s_iconst (by decide +kernel) rfl), ?_⟩
  refine List.forall_mem_cons.mpr ⟨zSX_of (s_zret rfl (by decide +kernel)), ?_⟩
  exact fun q hq => absurd hq List.not_mem_nil
set_option maxHeartbeats 2000000 in
/-- 38: shift -/
theorem law_38 {X : zX} {L : Nat} {sc : Nat → Int32} (S : zScr X L sc) (C : zCx X 1000 k_L_law) (E : zEx X k_L_law (fun o _ => o = some (sI 1))) {i : Int} (i0 : 0 ≤ i) (i6 : i + 6 ≤ L) (IH : ∀ h, Inv2 h → zJ X 1726 [some (sR 99), some (sR 0), some (sR 52), some (sI i)] [] h) (h : zH) (hI : Inv2 h) : zJ X 1607 [some (sR 99), some (sR 0), some (sR 52), some (sI i)] [] h := by
  have hL := S.2.2.2
  refine zrunX (t_law_38 S) C E [1726] 60 _ _ _ _ ?_
  refine And.intro (by omega) (And.intro (by omega) (And.intro (by omega) (And.intro (by omega) (And.intro (by omega) (And.intro (by omega) (And.intro (by omega) (And.intro (by omega) (And.intro (by omega) (And.intro (by omega) (?_))))))))))
  refine zcall_i (d' := 999) (by omega) ((pr_shift (d := 999) (by omega) (i32_in _) (i32_in _) (i32_in _) (i32_in _) (i32_in _)) h hI) ?_
  rintro _ g ⟨r, rfl, hm⟩
  refine And.intro (by omega) (And.intro (by omega) (And.intro (by omega) (And.intro (by omega) (And.intro (by omega) (And.intro (by omega) (And.intro (by omega) (And.intro (by omega) (And.intro (by omega) (And.intro (by omega) (?_))))))))))
  refine zcall_i (d' := 999) (by omega) hm ?_
  rintro _ g' ⟨rfl, hI2⟩
  exact And.intro rfl (IH g' hI2)
def T_law_39 (L : Nat) (sc : Nat → Int32) : List (Nat × zO) := [(1670, o_aload 1671 1), (1671, o_aload 1672 0), (1672, o_iload 1673 3), (1673, o_const 1674 1), (1674, o_iadd 1675), (1675, o_sld L sc 1676), (1676, o_aload 1677 0), (1677, o_iload 1678 3), (1678, o_const 1679 2), (1679, o_iadd 1680), (1680, o_sld L sc 1681), (1681, o_callv 2 8 k_X8_taken 1684), (1684, o_aload 1685 2), (1685, o_aload 1686 0), (1686, o_iload 1687 3), (1687, o_const 1688 1), (1688, o_iadd 1689), (1689, o_sld L sc 1690), (1690, o_aload 1691 0), (1691, o_iload 1692 3), (1692, o_const 1693 2), (1693, o_iadd 1694), (1694, o_sld L sc 1695), (1695, o_callv 2 9 k_X9_taken 1698), (1698, o_same 1726), (1701, o_const 1702 0), (1702, o_zret)]
set_option maxRecDepth 20000 in
theorem t_law_39 {X : zX} {L : Nat} {sc : Nat → Int32} (S : zScr X L sc) : ∀ q ∈ T_law_39 L sc, zSX X k_L_law q.1 q.2 := by
  unfold T_law_39
  refine List.forall_mem_cons.mpr ⟨zSX_of (s_aload_n (j := 1) (by decide +kernel) rfl rfl), ?_⟩
  refine List.forall_mem_cons.mpr ⟨zSX_of (s_aload_n (j := 0) (by decide +kernel) rfl rfl), ?_⟩
  refine List.forall_mem_cons.mpr ⟨zSX_of (s_iload_n (j := 3) (by decide +kernel) rfl rfl), ?_⟩
  refine List.forall_mem_cons.mpr ⟨zSX_of (s_iconst (by decide +kernel) rfl), ?_⟩
  refine List.forall_mem_cons.mpr ⟨zSX_of (s_iadd (by decide +kernel) rfl), ?_⟩
  refine List.forall_mem_cons.mpr ⟨s_sld (pc := 1675) S (by decide +kernel) rfl, ?_⟩
  refine List.forall_mem_cons.mpr ⟨zSX_of (s_aload_n (j := 0) (by decide +kernel) rfl rfl), ?_⟩
  refine List.forall_mem_cons.mpr ⟨zSX_of (s_iload_n (j := 3) (by decide +kernel) rfl rfl), ?_⟩
  refine List.forall_mem_cons.mpr ⟨zSX_of (s_iconst (by decide +kernel) rfl), ?_⟩
  refine List.forall_mem_cons.mpr ⟨zSX_of (s_iadd (by decide +kernel) rfl), ?_⟩
  refine List.forall_mem_cons.mpr ⟨s_sld (pc := 1680) S (by decide +kernel) rfl, ?_⟩
  refine List.forall_mem_cons.mpr ⟨zSX_of (s_callv (idx := 179) (k' := k_X8_taken) (T := TX8) (N := 10) rfl q4_95 q4_92 q4_93 q4_94 q1_1 de_X8_taken (by decide) (by decide +kernel) rfl), ?_⟩
  refine List.forall_mem_cons.mpr ⟨zSX_of (s_aload_n (j := 2) (by decide +kernel) rfl rfl), ?_⟩
  refine List.forall_mem_cons.mpr ⟨zSX_of (s_aload_n (j := 0) (by decide +kernel) rfl rfl), ?_⟩
  refine List.forall_mem_cons.mpr ⟨zSX_of (s_iload_n (j := 3) (by decide +kernel) rfl rfl), ?_⟩
  refine List.forall_mem_cons.mpr ⟨zSX_of (s_iconst (by decide +kernel) rfl), ?_⟩
  refine List.forall_mem_cons.mpr ⟨zSX_of (s_iadd (by decide +kernel) rfl), ?_⟩
  refine List.forall_mem_cons.mpr ⟨s_sld (pc := 1689) S (by decide +kernel) rfl, ?_⟩
  refine List.forall_mem_cons.mpr ⟨zSX_of (s_aload_n (j := 0) (by decide +kernel) rfl rfl), ?_⟩
  refine List.forall_mem_cons.mpr ⟨zSX_of (s_iload_n (j := 3) (by decide +kernel) rfl rfl), ?_⟩
  refine List.forall_mem_cons.mpr ⟨zSX_of (s_iconst (by decide +kernel) rfl), ?_⟩
  refine List.forall_mem_cons.mpr ⟨zSX_of (s_iadd (by decide +kernel) rfl), ?_⟩
  refine List.forall_mem_cons.mpr ⟨s_sld (pc := 1694) S (by decide +kernel) rfl, ?_⟩
  refine List.forall_mem_cons.mpr ⟨zSX_of (s_callv (idx := 182) (k' := k_X9_taken) (T := TX9) (N := 54) rfl q6_152 q6_149 q6_150 q6_151 q1_10 de_X9_taken (by decide) (by decide +kernel) rfl), ?_⟩
  refine List.forall_mem_cons.mpr ⟨s_same (pc := 1698) (off := 28) (by decide +kernel) (by decide), ?_⟩
  refine List.forall_mem_cons.mpr ⟨zSX_of (s_iconst (by decide +kernel) rfl), ?_⟩
  refine List.forall_mem_cons.mpr ⟨zSX_of (s_zret rfl (by decide +kernel)), ?_⟩
  exact fun q hq => absurd hq List.not_mem_nil
set_option maxHeartbeats 2000000 in
/-- 39: taken -/
theorem law_39 {X : zX} {L : Nat} {sc : Nat → Int32} (S : zScr X L sc) (C : zCx X 1000 k_L_law) (E : zEx X k_L_law (fun o _ => o = some (sI 1))) {i : Int} (i0 : 0 ≤ i) (i6 : i + 6 ≤ L) (IH : ∀ h, Inv2 h → zJ X 1726 [some (sR 99), some (sR 0), some (sR 52), some (sI i)] [] h) (h : zH) (hI : Inv2 h) : zJ X 1670 [some (sR 99), some (sR 0), some (sR 52), some (sI i)] [] h := by
  have hL := S.2.2.2
  refine zrunX (t_law_39 S) C E [1726] 60 _ _ _ _ ?_
  refine And.intro (by omega) (And.intro (by omega) (And.intro (by omega) (And.intro (by omega) (?_))))
  refine zcall_i (d' := 999) (by omega) ((pr_taken (d := 999) (by omega) (i32_in _) (i32_in _)) h hI) ?_
  rintro _ g ⟨r, rfl, hm⟩
  refine And.intro (by omega) (And.intro (by omega) (And.intro (by omega) (And.intro (by omega) (?_))))
  refine zcall_i (d' := 999) (by omega) hm ?_
  rintro _ g' ⟨rfl, hI2⟩
  exact And.intro rfl (IH g' hI2)
def T_law_40 (L : Nat) (sc : Nat → Int32) : List (Nat × zO) := [(1703, o_aload 1704 1), (1704, o_aload 1705 0), (1705, o_iload 1706 3), (1706, o_const 1707 1), (1707, o_iadd 1708), (1708, o_sld L sc 1709), (1709, o_callv 1 8 k_X8_count 1712), (1712, o_aload 1713 2), (1713, o_aload 1714 0), (1714, o_iload 1715 3), (1715, o_const 1716 1), (1716, o_iadd 1717), (1717, o_sld L sc 1718), (1718, o_callv 1 9 k_X9_count 1721), (1721, o_same 1726), (1724, o_const 1725 0), (1725, o_zret)]
set_option maxRecDepth 20000 in
theorem t_law_40 {X : zX} {L : Nat} {sc : Nat → Int32} (S : zScr X L sc) : ∀ q ∈ T_law_40 L sc, zSX X k_L_law q.1 q.2 := by
  unfold T_law_40
  refine List.forall_mem_cons.mpr ⟨zSX_of (s_aload_n (j := 1) (by decide +kernel) rfl rfl), ?_⟩
  refine List.forall_mem_cons.mpr ⟨zSX_of (s_aload_n (j := 0) (by decide +kernel) rfl rfl), ?_⟩
  refine List.forall_mem_cons.mpr ⟨zSX_of (s_iload_n (j := 3) (by decide +kernel) rfl rfl), ?_⟩
  refine List.forall_mem_cons.mpr ⟨zSX_of (s_iconst (by decide +kernel) rfl), ?_⟩
  refine List.forall_mem_cons.mpr ⟨zSX_of (s_iadd (by decide +kernel) rfl), ?_⟩
  refine List.forall_mem_cons.mpr ⟨s_sld (pc := 1708) S (by decide +kernel) rfl, ?_⟩
  refine List.forall_mem_cons.mpr ⟨zSX_of (s_callv (idx := 183) (k' := k_X8_count) (T := TX8) (N := 10) rfl q4_102 q4_99 q4_100 q4_101 q1_1 de_X8_count (by decide) (by decide +kernel) rfl), ?_⟩
  refine List.forall_mem_cons.mpr ⟨zSX_of (s_aload_n (j := 2) (by decide +kernel) rfl rfl), ?_⟩
  refine List.forall_mem_cons.mpr ⟨zSX_of (s_aload_n (j := 0) (by decide +kernel) rfl rfl), ?_⟩
  refine List.forall_mem_cons.mpr ⟨zSX_of (s_iload_n (j := 3) (by decide +kernel) rfl rfl), ?_⟩
  refine List.forall_mem_cons.mpr ⟨zSX_of (s_iconst (by decide +kernel) rfl), ?_⟩
  refine List.forall_mem_cons.mpr ⟨zSX_of (s_iadd (by decide +kernel) rfl), ?_⟩
  refine List.forall_mem_cons.mpr ⟨s_sld (pc := 1717) S (by decide +kernel) rfl, ?_⟩
  refine List.forall_mem_cons.mpr ⟨zSX_of (s_callv (idx := 186) (k' := k_X9_count) (T := TX9) (N := 54) rfl q6_163 q6_160 q6_161 q6_162 q1_10 de_X9_count (by decide) (by decide +kernel) rfl), ?_⟩
  refine List.forall_mem_cons.mpr ⟨s_same (pc := 1721) (off := 5) (by decide +kernel) (by decide), ?_⟩
  refine List.forall_mem_cons.mpr ⟨zSX_of (s_iconst (by decide +kernel) rfl), ?_⟩
  refine List.forall_mem_cons.mpr ⟨zSX_of (s_zret rfl (by decide +kernel)), ?_⟩
  exact fun q hq => absurd hq List.not_mem_nil
set_option maxHeartbeats 2000000 in
/-- 40: count -/
theorem law_40 {X : zX} {L : Nat} {sc : Nat → Int32} (S : zScr X L sc) (C : zCx X 1000 k_L_law) (E : zEx X k_L_law (fun o _ => o = some (sI 1))) {i : Int} (i0 : 0 ≤ i) (i6 : i + 6 ≤ L) (IH : ∀ h, Inv2 h → zJ X 1726 [some (sR 99), some (sR 0), some (sR 52), some (sI i)] [] h) (h : zH) (hI : Inv2 h) : zJ X 1703 [some (sR 99), some (sR 0), some (sR 52), some (sI i)] [] h := by
  have hL := S.2.2.2
  refine zrunX (t_law_40 S) C E [1726] 60 _ _ _ _ ?_
  refine And.intro (by omega) (And.intro (by omega) (?_))
  refine zcall_i (d' := 999) (by omega) ((Pair2_of (pr_count (d := 999) (i32_in _))) h hI) ?_
  rintro _ g ⟨r, rfl, hm⟩
  refine And.intro (by omega) (And.intro (by omega) (?_))
  refine zcall_i (d' := 999) (by omega) hm ?_
  rintro _ g' ⟨rfl, hI2⟩
  exact And.intro rfl (IH g' hI2)
