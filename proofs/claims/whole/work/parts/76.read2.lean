abbrev frT : Nat → Nat → Bool := fun c i => c == 17 || c == 18 || (c == 1 && (i == 4 || i == 5))
def RS (g : zH) (pre : List (Int × Int)) : Prop := g.1 1 4 = pre.length ∧ ∀ i, i < pre.length → g.1 17 i = (pre.getD i (0, 0)).1 ∧ g.1 18 i = (pre.getD i (0, 0)).2
set_option maxHeartbeats 2000000 in
theorem c_X7_read {d : Nat} (hd : 4 ≤ d) (h : zH) (L : Nat) (h1 : h.1 1 1 = L) (hL : L ≤ 120) (hB : ∀ i : Nat, i < 120 → 0 ≤ h.1 16 i ∧ h.1 16 i ≤ 255) :
    zC d k_X7_read [sR 1] h (fun o g => fr frT h g ∧ o = some (sI (rdF (h.1 16) L 12 0 (-1)).1) ∧ RS g (rdF (h.1 16) L 12 0 (-1)).2) := by
  generalize hR : rdF (h.1 16) L 12 0 (-1) = R
  refine zC_of (by decide +kernel) (Nat.le_of_ble_eq_true rfl) (fun X C E => ?_)
  have loop : ∀ (f q : Nat) (b : Int) (pre : List (Int × Int)) (G : zH), f + pre.length = 12 → fr frT h G → RS G pre → G.1 1 5 = q → q ≤ L → inR b → (rdF (h.1 16) L f q b).1 = R.1 → pre ++ (rdF (h.1 16) L f q b).2 = R.2 → zJ X 12 [some (sR 1), some (sI b)] [] G := by
    intro f
    induction f with
    | zero =>
      intro q b pre G hf hfr hRS h5 hq hb e1 e2
      have h4 := hRS.1
      refine zrun_sound t_X7_read C E [] 60 _ _ _ _ ?_
      refine And.intro (by omega) (And.intro (by decide) (And.intro (fun _ => ?_) (fun z => absurd (show 12 ≤ G.1 1 4 by omega) z)))
      rw [← e1, ← e2]
      refine And.intro hfr (And.intro (congrArg (fun v => some (sI v)) h5) ?_)
      show RS G (pre ++ [])
      rw [List.append_nil]
      exact hRS
    | succ f ih =>
      intro q b pre G hf hfr hRS h5 hq hb e1 e2
      have h4 := hRS.1
      have e16 : G.1 16 = h.1 16 := funext fun i => (hfr 16 i rfl).1
      have e11 : G.1 1 1 = L := (hfr 1 1 rfl).1.trans h1
      have rm := c_X7_readMinute (d := d - 1) (by omega) G b q L pre.length hb h5 e11 h4 (by omega) hL hq (by rw [e16]; exact hB)
      rw [e16] at rm
      have vA := nmF_v (h.1 16) L 4 q 0 1 (by omega) (by omega)
      have t4 : tnF 4 = 10000 := rfl
      rw [t4] at vA
      have hA := nmF_q (h.1 16) L 4 q 0
      unfold rdF at e1 e2
      generalize nmF (h.1 16) L 4 q 0 = a at *
      have vC := nmF_v (h.1 16) L 3 (a.1 + 1) 0 1 (by omega) (by omega)
      have hC := nmF_q (h.1 16) L 3 (a.1 + 1) 0
      refine zrun_sound t_X7_read C E [12, 102] 80 _ _ _ _ ?_
      refine And.intro (by omega) (And.intro (by decide) (And.intro (fun z => absurd (show 12 ≤ G.1 1 4 from z) (by omega)) (fun _ => ?_)))
      refine zcall_i (d' := d - 1) (by omega) rm ?_
      rintro o g ⟨hfB, ⟨c1, rfl, g17⟩ | ⟨c1, c2, rfl, g17⟩ | ⟨c1, c2, rfl, g5, g17⟩⟩
      · have RSg : RS g pre := ⟨by rw [(hfB 1 4 rfl).1]; exact h4, fun i hi => by rw [g17, (hfB 18 i rfl).1]; exact hRS.2 i hi⟩
        rw [if_pos c1] at e1 e2
        refine And.intro (by omega) (And.intro (by decide) (And.intro (fun z => absurd z (by omega)) (fun _ => ?_)))
        rw [← e1, ← e2]
        refine And.intro (fr_trans hfr (fr_sub hfB (fun c i z => by simp [frTb, frT] at z ⊢; omega))) (And.intro rfl ?_)
        show RS g (pre ++ [])
        rw [List.append_nil]
        exact RSg
      · have RSg : RS g pre := ⟨by rw [(hfB 1 4 rfl).1]; exact h4, fun i hi => by rw [g17, (hfB 18 i rfl).1]; exact hRS.2 i hi⟩
        rw [if_neg c1, if_pos c2] at e1 e2
        refine And.intro (by omega) (And.intro (by decide) (And.intro (fun z => absurd z (by omega)) (fun _ => ?_)))
        rw [← e1, ← e2]
        refine And.intro (fr_trans hfr (fr_sub hfB (fun c i z => by simp [frTb, frT] at z ⊢; omega))) (And.intro rfl ?_)
        show RS g (pre ++ [])
        rw [List.append_nil]
        exact RSg
      · rw [if_neg c1, if_neg (not_not_intro c2)] at e1 e2
        have frg := fr_trans hfr (fr_sub hfB (fun c i z => by simp [frTb, frT] at z ⊢; omega))
        have g16 : g.1 16 = h.1 16 := funext fun i => (frg 16 i rfl).1
        have rh := c_X7_readHeight (d := d - 1) (by omega) g (a.1 + 1) L pre.length g5 ((frg 1 1 rfl).1.trans h1) (by rw [(hfB 1 4 rfl).1]; exact h4) (by omega) hL (by omega) (by rw [g16]; exact hB)
        rw [g16] at rh
        have hCL := hC.2 (by omega)
        generalize nmF (h.1 16) L 3 (a.1 + 1) 0 = c at *
        refine And.intro (by decide) (And.intro (by decide) (And.intro (fun _ => ?_) (fun z => absurd rfl z)))
        refine zcall_i (d' := d - 1) (by omega) rh ?_
        rintro o g2 ⟨hfC, w5, w18, ⟨c3, rfl⟩ | ⟨c3, rfl⟩⟩
        · have w4 : g2.1 1 4 = pre.length := by rw [(hfC 1 4 rfl).1, (hfB 1 4 rfl).1]; exact h4
          have fr2 := fr_trans frg (fr_sub hfC (fun c i z => by simp [frTc, frT] at z ⊢; omega))
          have RSg : RS g2 pre := ⟨w4, fun i hi => by
            rw [(hfC 17 i rfl).1, g17 i, if_neg (by omega), w18 i, if_neg (by omega), (hfB 18 i rfl).1]
            exact hRS.2 i hi⟩
          rw [if_pos c3] at e1 e2
          refine And.intro (by omega) (And.intro (by decide) (And.intro (fun z => absurd z (by omega)) (fun _ => ?_)))
          rw [← e1, ← e2, c3]
          refine And.intro fr2 (And.intro rfl ?_)
          show RS g2 (pre ++ [])
          rw [List.append_nil]
          exact RSg
        · have w4 : g2.1 1 4 = pre.length := by rw [(hfC 1 4 rfl).1, (hfB 1 4 rfl).1]; exact h4
          have fr2 := fr_trans frg (fr_sub hfC (fun c i z => by simp [frTc, frT] at z ⊢; omega))
          have w17 : g2.1 17 pre.length = a.2 := by rw [(hfC 17 _ rfl).1, g17, if_pos rfl]
          have RSg : RS (setI g2 1 4 (g2.1 1 4 + 1)) (pre ++ [(a.2, c.2)]) := by
            refine ⟨?_, fun i hi => ?_⟩
            · rw [setI_eq, w4, List.length_append]
              rfl
            · have hi' : i < pre.length + 1 := by simpa using hi
              rw [getD_app hi', setI_ne (show 17 ≠ 1 by omega), setI_ne (show 18 ≠ 1 by omega), (hfC 17 i rfl).1, g17 i, w18 i]
              by_cases e : i = pre.length
              · rw [if_pos e, if_pos e, if_pos e]
                exact ⟨rfl, rfl⟩
              · rw [if_neg e, if_neg e, if_neg e, (hfB 18 i rfl).1]
                exact hRS.2 i (by omega)
          have fr3 : fr frT h (setI g2 1 4 (g2.1 1 4 + 1)) := fr_setI fr2 rfl
          rw [if_neg c3] at e1 e2
          refine And.intro (by decide) (And.intro (by decide) (And.intro (fun _ => ?_) (fun z => absurd rfl z)))
          have p0 : 0 ≤ g2.1 1 4 := by omega
          have p1 : g2.1 1 4 < 12 := by omega
          have i5 : inR (g2.1 1 5) := by omega
          have w1 : g2.1 1 1 = L := (fr2 1 1 rfl).1.trans h1
          have i1 : inR (g2.1 1 1) := by omega
          have eb : g2.1 17 (g2.1 1 4).toNat = a.2 := by rw [w4, tnat]; exact w17
          refine And.intro p0 (And.intro p1 (And.intro i5 (And.intro i1 (And.intro (fun z => ?_) (fun z => ?_)))))
          · replace z : ¬ g2.1 1 1 ≤ g2.1 1 5 := by have : g2.1 1 5 < g2.1 1 1 := z; omega
            have c4 : ¬ ¬ c.1 < L := by omega
            rw [if_neg c4] at e1 e2
            have k0 : 0 ≤ g2.1 1 5 := by omega
            have k1 : g2.1 1 5 < 120 := by omega
            have ev : g2.1 16 (g2.1 1 5).toNat = h.1 16 c.1 := by rw [(fr2 16 _ rfl).1, w5, tnat]
            have hb1 := hB c.1 (by omega)
            have bi : inR (g2.1 16 (g2.1 1 5).toNat) := by rw [ev]; omega
            have ot : (¬ h.1 16 c.1 = 59 ∨ f = 0) → zJ X 102 [some (sR 1), some (sI (g2.1 17 (g2.1 1 4).toNat)), some (sI (-1))] [] (setI g2 1 4 (g2.1 1 4 + 1)) := fun c5 => by
              rw [if_pos c5] at e1 e2
              refine zrun_sound t_X7_read C E [] 60 _ _ _ _ ?_
              rw [← e1, ← e2]
              refine And.intro fr3 (And.intro (congrArg (fun v => some (sI v)) ?_) RSg)
              show (setI g2 1 4 (g2.1 1 4 + 1)).1 1 5 = _
              rw [setI_n2 (by omega)]
              exact w5
            refine And.intro k0 (And.intro k1 (And.intro bi (And.intro (by decide) (And.intro (fun z2 => ?_) (fun z2 => ?_)))))
            · replace z2 : g2.1 16 (g2.1 1 5).toNat ≠ 59 := z2
              rw [ev] at z2
              exact ot (Or.inl z2)
            · replace z2 : g2.1 16 (g2.1 1 5).toNat = 59 := z2
              rw [ev] at z2
              have i4 : inR (g2.1 1 4 + 1) := by omega
              refine And.intro i4 (And.intro (by decide) (And.intro (fun z3 => ?_) (fun z3 => ?_)))
              · replace z3 : g2.1 1 4 + 1 ≠ 12 := z3
                have c5 : ¬ (¬ h.1 16 c.1 = 59 ∨ f = 0) := by omega
                rw [if_neg c5] at e1 e2
                refine zJ_le (ih (c.1 + 1) a.2 (pre ++ [(a.2, c.2)]) (setI (setI g2 1 4 (g2.1 1 4 + 1)) 1 5 (g2.1 1 5 + 1)) (by simp; omega) (fr_setI fr3 rfl) ?_ ?_ (by omega) (by omega) e1 (by rw [List.append_assoc]; exact e2)) (And.intro rfl (And.intro (congrArg (fun v => sI v) eb.symm) trivial)) rfl rfl
                · refine ⟨?_, fun i hi => ?_⟩
                  · rw [setI_n2 (by omega)]
                    exact RSg.1
                  · rw [setI_ne (show 17 ≠ 1 by omega), setI_ne (show 18 ≠ 1 by omega)]
                    exact RSg.2 i hi
                · rw [setI_eq, w5]
                  rfl
              · replace z3 : g2.1 1 4 + 1 = 12 := z3
                exact ot (Or.inr (by omega))
          · replace z : g2.1 1 1 ≤ g2.1 1 5 := by have : ¬ g2.1 1 5 < g2.1 1 1 := z; omega
            have c4 : ¬ c.1 < L := by omega
            rw [if_pos c4] at e1 e2
            rw [← e1, ← e2]
            exact And.intro fr3 (And.intro rfl RSg)
  refine zrun_sound t_X7_read C E [12] 60 _ _ _ _ ?_
  exact zJ_le (loop 12 0 (-1) [] (setI (setI h 1 5 0) 1 4 0) rfl (fr_setI (fr_setI (fr_rfl _ _) rfl) rfl) ⟨rfl, fun i hi => absurd hi (Nat.not_lt_zero i)⟩ rfl (by omega) (by omega) (by rw [hR]) (by rw [hR]; rfl)) (And.intro rfl (And.intro rfl trivial)) rfl rfl
