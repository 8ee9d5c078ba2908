theorem L63 (x : Int) : 0 ≤ and32 x 63 ∧ and32 x 63 ≤ 63 := by
  rw [and32_63]
  omega
set_option maxHeartbeats 8000000 in
theorem law_loop {X : zX} {L : Nat} {sc : Nat → Int32} (S : zScr X L sc) (C : zCx X 1000 k_L_law) (E : zEx X k_L_law (fun o _ => o = some (sI 1))) : ∀ (f : Nat) (i : Int) (h : zH), 0 ≤ i → i ≤ L → (L : Int) < i + 6 * f → Inv2 h → zJ X 18 [some (sR 99), some (sR 0), some (sR 52), some (sI i)] [] h := by
  have hL := S.2.2.2
  intro f
  induction f with
  | zero =>
    intro i h i0 i1 i2 hI
    omega
  | succ f ih =>
    intro i h i0 i1 i2 hI
    refine zrunX (t_law_head S) C E [1726, 1732, 212, 245, 258, 301, 344, 367, 400, 433, 476, 509, 542, 585, 638, 691, 734, 787, 830, 893, 946, 999, 1042, 1065, 1108, 1121, 1174, 1217, 1250, 1273, 1296, 1309, 1322, 1335, 1358, 1401, 1424, 1457, 1500, 1573, 1607, 1670, 1703] 60 _ _ _ _ ?_
    refine And.intro (by omega) (And.intro (by omega) (And.intro (fun z => ?_) (fun z => ?_)))
    · refine zrunX (t_law_tail S) C E [18] 60 _ _ _ _ ?_
      exact And.intro (Or.inr rfl) rfl
    · have i6 : i + 6 ≤ L := by omega
      have nx : ∀ g, Inv2 g → zJ X 1726 [some (sR 99), some (sR 0), some (sR 52), some (sI i)] [] g := fun g hg => by
        refine zrunX (t_law_tail S) C E [18] 60 _ _ _ _ ?_
        exact zJ_le (ih (i + 6) g (by omega) (by omega) (by omega) hg) (And.intro rfl (And.intro rfl (And.intro rfl (And.intro rfl trivial)))) rfl rfl
      have q := L63 (sc i.toNat).toInt
      refine And.intro i0 (And.intro (by omega) ?_)
      refine And.intro (show inR (and32 (sc i.toNat).toInt 63) by omega) (And.intro (fun _ => nx h hI) ?_)
      refine And.intro (fun _ => law_0 S C E i0 i6 nx h hI) ?_
      refine And.intro (fun _ => law_1 S C E i0 i6 nx h hI) ?_
      refine And.intro (fun _ => law_2 S C E i0 i6 nx h hI) ?_
      refine And.intro (fun _ => law_3 S C E i0 i6 nx h hI) ?_
      refine And.intro (fun _ => law_4 S C E i0 i6 nx h hI) ?_
      refine And.intro (fun _ => law_5 S C E i0 i6 nx h hI) ?_
      refine And.intro (fun _ => law_6 S C E i0 i6 nx h hI) ?_
      refine And.intro (fun _ => law_7 S C E i0 i6 nx h hI) ?_
      refine And.intro (fun _ => law_8 S C E i0 i6 nx h hI) ?_
      refine And.intro (fun _ => law_9 S C E i0 i6 nx h hI) ?_
      refine And.intro (fun _ => law_10 S C E i0 i6 nx h hI) ?_
      refine And.intro (fun _ => law_11 S C E i0 i6 nx h hI) ?_
      refine And.intro (fun _ => law_12 S C E i0 i6 nx h hI) ?_
      refine And.intro (fun _ => law_13 S C E i0 i6 nx h hI) ?_
      refine And.intro (fun _ => law_14 S C E i0 i6 nx h hI) ?_
      refine And.intro (fun _ => law_15 S C E i0 i6 nx h hI) ?_
      refine And.intro (fun _ => law_16 S C E i0 i6 nx h hI) ?_
      refine And.intro (fun _ => law_17 S C E i0 i6 nx h hI) ?_
      refine And.intro (fun _ => law_18 S C E i0 i6 nx h hI) ?_
      refine And.intro (fun _ => law_19 S C E i0 i6 nx h hI) ?_
      refine And.intro (fun _ => law_20 S C E i0 i6 nx h hI) ?_
      refine And.intro (fun _ => law_21 S C E i0 i6 nx h hI) ?_
      refine And.intro (fun _ => law_22 S C E i0 i6 nx h hI) ?_
      refine And.intro (fun _ => law_23 S C E i0 i6 nx h hI) ?_
      refine And.intro (fun _ => law_24 S C E i0 i6 nx h hI) ?_
      refine And.intro (fun _ => law_25 S C E i0 i6 nx h hI) ?_
      refine And.intro (fun _ => law_26 S C E i0 i6 nx h hI) ?_
      refine And.intro (fun _ => law_27 S C E i0 i6 nx h hI) ?_
      refine And.intro (fun _ => law_28 S C E i0 i6 nx h hI) ?_
      refine And.intro (fun _ => law_29 S C E i0 i6 nx h hI) ?_
      refine And.intro (fun _ => law_30 S C E i0 i6 nx h hI) ?_
      refine And.intro (fun _ => law_31 S C E i0 i6 nx h hI) ?_
      refine And.intro (fun _ => law_32 S C E i0 i6 nx h hI) ?_
      refine And.intro (fun _ => law_33 S C E i0 i6 nx h hI) ?_
      refine And.intro (fun _ => law_34 S C E i0 i6 nx h hI) ?_
      refine And.intro (fun _ => law_35 S C E i0 i6 nx h hI) ?_
      refine And.intro (fun _ => law_36 S C E i0 i6 nx h hI) ?_
      refine And.intro (fun _ => law_37 S C E i0 i6 nx h hI) ?_
      refine And.intro (fun _ => law_38 S C E i0 i6 nx h hI) ?_
      refine And.intro (fun _ => law_39 S C E i0 i6 nx h hI) ?_
      refine And.intro (fun _ => law_40 S C E i0 i6 nx h hI) ?_
      trivial
