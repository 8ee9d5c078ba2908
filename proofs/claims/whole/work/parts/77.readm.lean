/-! the reference reads -/
abbrev frTn : Nat → Nat → Bool := fun c i => c == 52 && i == 15
theorem c_X9_byteAt {d : Nat} (h : zH) (q L : Nat) (h5 : h.1 52 15 = q) (h1 : h.1 52 7 = L) (hL : L ≤ 120) (hq : q ≤ 130) :
    zC d k_X9_byteAt [sR 52] h (fun o g => h = g ∧ o = some (sI (if q < L then h.1 57 q else -1))) := by
  have iq : inR (h.1 52 15) := by omega
  have il : inR (h.1 52 7) := by omega
  refine zC_of (by decide +kernel) (Nat.le_of_ble_eq_true rfl) (fun X C E => zrun_sound t_X9_byteAt C E [] 60 _ _ _ _ ?_)
  refine And.intro iq (And.intro il (And.intro (fun z => ?_) (fun z => ?_)))
  · replace z : h.1 52 7 ≤ h.1 52 15 := z
    rw [if_neg (show ¬ q < L by omega)]
    exact And.intro rfl rfl
  · replace z : ¬ h.1 52 7 ≤ h.1 52 15 := z
    have k0 : 0 ≤ h.1 52 15 := by omega
    have k1 : h.1 52 15 < 120 := by omega
    rw [if_pos (show q < L by omega)]
    refine And.intro k0 (And.intro k1 (And.intro rfl (congrArg (fun v => some (sI v)) ?_)))
    show h.1 57 (h.1 52 15).toNat = _
    rw [h5, tnat]
set_option maxHeartbeats 2000000 in
theorem c_X9_number {d : Nat} (hd : 2 ≤ d) (h : zH) (k q L : Nat) (lo hi : Int) (hk : k ≤ 4) (hlo : inR lo) (hhi : inR hi) (h5 : h.1 52 15 = q) (h1 : h.1 52 7 = L) (hL : L ≤ 120) (hq : q ≤ L) (hB : ∀ i : Nat, i < 120 → 0 ≤ h.1 57 i ∧ h.1 57 i ≤ 255) :
    zC d k_X9_number [sR 52, sI k, sI lo, sI hi] h (fun o g => fr frTn h g ∧ ((((nmF (h.1 57) L k q 0).1 = q ∨ (nmF (h.1 57) L k q 0).2 ≤ lo ∨ hi < (nmF (h.1 57) L k q 0).2) ∧ g.1 52 15 = q ∧ o = some (sI (-1))) ∨ (¬ ((nmF (h.1 57) L k q 0).1 = q ∨ (nmF (h.1 57) L k q 0).2 ≤ lo ∨ hi < (nmF (h.1 57) L k q 0).2) ∧ g.1 52 15 = (nmF (h.1 57) L k q 0).1 ∧ o = some (sI (nmF (h.1 57) L k q 0).2)))) := by
  have hA := nmF_q (h.1 57) L k q 0
  have vA := nmF_v (h.1 57) L k q 0 1 (by omega) (by omega)
  have tk : tnF k ≤ 10000 := by
    rcases (by omega : k = 0 ∨ k = 1 ∨ k = 2 ∨ k = 3 ∨ k = 4) with rfl | rfl | rfl | rfl | rfl <;> decide
  generalize hR : nmF (h.1 57) L k q 0 = a at *
  have ik : inR (k : Int) := by omega
  refine zC_of (by decide +kernel) (Nat.le_of_ble_eq_true rfl) (fun X C E => ?_)
  have fin : ∀ (G : zH), fr frTn h G → G.1 52 15 = a.1 → zJ X 66 [some (sR 52), some (sI k), some (sI lo), some (sI hi), some (sI q), some (sI a.2)] [] G := by
    intro G hf g5
    have i5 : inR (G.1 52 15) := by omega
    refine zrun_sound t_X9_number C E [89] 60 _ _ _ _ ?_
    refine And.intro i5 (And.intro (by omega) (And.intro (fun z => ?_) (fun z => ?_)))
    · replace z : G.1 52 15 ≠ q := z
      have bad : (a.2 ≤ lo ∨ hi < a.2) → zJ X 89 [some (sR 52), some (sI k), some (sI lo), some (sI hi), some (sI q), some (sI a.2)] [] G := fun w => by
        refine zrun_sound t_X9_number C E [] 60 _ _ _ _ ?_
        exact And.intro (fr_setI hf rfl) (Or.inl ⟨Or.inr w, rfl, rfl⟩)
      refine And.intro (by omega) (And.intro hlo (And.intro (fun z2 => bad (Or.inl z2)) (fun z2 => ?_)))
      refine And.intro (by omega) (And.intro hhi (And.intro (fun z3 => ?_) (fun z3 => bad (Or.inr (by omega)))))
      exact And.intro hf (Or.inr ⟨by omega, g5, rfl⟩)
    · replace z : G.1 52 15 = q := z
      exact And.intro hf (Or.inl ⟨Or.inl (by omega), z, rfl⟩)
  have loop : ∀ (f j q' : Nat) (v : Int) (G : zH), j + f = k → q' = q + j → fr frTn h G → G.1 52 15 = q' → q' ≤ L → 0 ≤ v → v + 1 ≤ tnF j → nmF (h.1 57) L f q' v = a → zJ X 9 [some (sR 52), some (sI k), some (sI lo), some (sI hi), some (sI q), some (sI v)] [] G := by
    intro f
    induction f with
    | zero =>
      intro j q' v G hj hqj hf hq' hqL v0 v1 hn
      have i5 : inR (G.1 52 15) := by omega
      refine zrun_sound t_X9_number C E [66] 60 _ _ _ _ ?_
      refine And.intro i5 (And.intro (by omega) (And.intro (fun _ => ?_) (fun z => ?_)))
      · have e1 : a.1 = q' := by rw [← hn]; rfl
        have e2 : a.2 = v := by rw [← hn]; rfl
        exact zJ_le (fin G hf (by rw [e1]; exact hq')) (And.intro rfl (And.intro rfl (And.intro rfl (And.intro rfl (And.intro rfl (And.intro (congrArg (fun v => sI v) e2) trivial)))))) rfl rfl
      · replace z : ¬ (q : Int) + k ≤ G.1 52 15 := z
        omega
    | succ f ih =>
      intro j q' v G hj hqj hf hq' hqL v0 v1 hn
      have i5 : inR (G.1 52 15) := by omega
      have e57 : G.1 57 = h.1 57 := funext fun i => (hf 57 i rfl).1
      have e7 : G.1 52 7 = L := (hf 52 7 rfl).1.trans h1
      have tj : tnF j ≤ 1000 := by
        rcases (by omega : j = 0 ∨ j = 1 ∨ j = 2 ∨ j = 3) with rfl | rfl | rfl | rfl <;> decide
      have by1 := c_X9_byteAt (d := d - 1) G q' L hq' e7 hL (by omega)
      rw [e57] at by1
      have stop : ¬ (q' < L ∧ 48 ≤ h.1 57 q' ∧ h.1 57 q' ≤ 57) → zJ X 66 [some (sR 52), some (sI k), some (sI lo), some (sI hi), some (sI q), some (sI v)] [] G := fun w => by
        have e : nmF (h.1 57) L (f + 1) q' v = (q', v) := by
          show (if q' < L ∧ 48 ≤ h.1 57 q' ∧ h.1 57 q' ≤ 57 then _ else _) = _
          rw [if_neg w]
        have e1 : a.1 = q' := by rw [← hn, e]
        have e2 : a.2 = v := by rw [← hn, e]
        rw [← e2]
        exact fin G hf (by rw [e1]; exact hq')
      have bI : inR (if q' < L then h.1 57 q' else -1) := by
        by_cases w : q' < L
        · have := hB q' (by omega)
          rw [if_pos w]
          omega
        · rw [if_neg w]
          omega
      refine zrun_sound t_X9_number C E [9, 66] 60 _ _ _ _ ?_
      refine And.intro i5 (And.intro (by omega) (And.intro (fun z => ?_) (fun _ => ?_)))
      · replace z : (q : Int) + k ≤ G.1 52 15 := z
        omega
      · refine zcall_i (d' := d - 1) (by omega) by1 ?_
        rintro _ _ ⟨rfl, rfl⟩
        refine And.intro bI (And.intro (by decide) (And.intro (fun z => stop (fun w => ?_)) (fun z => ?_)))
        · rw [if_pos w.1] at z
          omega
        · refine zcall_i (d' := d - 1) (by omega) by1 ?_
          rintro _ _ ⟨rfl, rfl⟩
          refine And.intro bI (And.intro (by decide) (And.intro (fun z2 => stop (fun w => ?_)) (fun z2 => ?_)))
          · rw [if_pos w.1] at z2
            omega
          · refine zcall_i (d' := d - 1) (by omega) by1 ?_
            rintro _ _ ⟨rfl, rfl⟩
            have qL : q' < L := by
              by_cases w : q' < L
              · exact w
              · rw [if_neg w] at z
                omega
            rw [if_pos qL] at z z2
            have e : nmF (h.1 57) L (f + 1) q' v = nmF (h.1 57) L f (q' + 1) (10 * v + h.1 57 q' - 48) := by
              show (if q' < L ∧ 48 ≤ h.1 57 q' ∧ h.1 57 q' ≤ 57 then _ else _) = _
              rw [if_pos ⟨qL, by omega, by omega⟩]
            have t1 : tnF (j + 1) = 10 * tnF j := rfl
            refine zJ_le (ih (j + 1) (q' + 1) (10 * v + h.1 57 q' - 48) (setI G 52 15 (G.1 52 15 + 1)) (by omega) (by omega) (fr_setI hf rfl) ?_ (by omega) (by omega) (by rw [t1]; omega) (e.symm.trans hn)) (And.intro rfl (And.intro rfl (And.intro rfl (And.intro rfl (And.intro rfl (And.intro ?_ trivial)))))) rfl rfl
            · rw [setI_eq, hq']
              rfl
            · show sI (10 * v + h.1 57 q' - 48) = sI (10 * v + (if q' < L then h.1 57 q' else -1) - 48)
              rw [if_pos qL]
  refine zrun_sound t_X9_number C E [9] 60 _ _ _ _ ?_
  exact zJ_le (loop k 0 q 0 h (by omega) (by omega) (fr_rfl _ _) h5 hq (by omega) (by decide) hR) (And.intro rfl (And.intro rfl (And.intro rfl (And.intro rfl (And.intro (congrArg (fun v => sI v) h5.symm) (And.intro rfl trivial)))))) rfl rfl
abbrev frTm : Nat → Nat → Bool := fun c i => c == 61 || c == 62 || (c == 52 && (i == 14 || i == 15))
def RM (g : zH) (pre : List (Int × Int)) : Prop := g.1 52 14 = pre.length ∧ ∀ i, i < pre.length → g.1 61 i = (pre.getD i (0, 0)).1 ∧ g.1 62 i = (pre.getD i (0, 0)).2
def rmB (o : Option zV) (g : zH) (r : Int) : Prop := (r = -1 ∧ o = some (sI 1)) ∨ (r ≠ -1 ∧ o = some (sI 0) ∧ g.1 52 15 = r)
set_option maxHeartbeats 4000000 in
theorem c_X9_readPoints {d : Nat} (hd : 4 ≤ d) (h : zH) (L : Nat) (h1 : h.1 52 7 = L) (hL : L ≤ 120) (hB : ∀ i : Nat, i < 120 → 0 ≤ h.1 57 i ∧ h.1 57 i ≤ 255) :
    zC d k_X9_readPoints [sR 52] h (fun o g => fr frTm h g ∧ rmB o g (rdF (h.1 57) L 12 0 (-1)).1 ∧ RM g (rdF (h.1 57) L 12 0 (-1)).2) := by
  generalize hR : rdF (h.1 57) L 12 0 (-1) = R
  refine zC_of (by decide +kernel) (Nat.le_of_ble_eq_true rfl) (fun X C E => ?_)
  have loop : ∀ (f q : Nat) (b : Int) (pre : List (Int × Int)) (G : zH), f + 1 + pre.length = 12 → fr frTm h G → RM G pre → G.1 52 15 = q → q ≤ L → inR b → (rdF (h.1 57) L (f + 1) q b).1 = R.1 → pre ++ (rdF (h.1 57) L (f + 1) q b).2 = R.2 → zJ X 12 [some (sR 52), some (sI b)] [] G := by
    intro f
    induction f using Nat.strongRecOn with
    | _ f ih =>
      intro q b pre G hf hfr hRM h5 hq hb e1 e2
      have h4 := hRM.1
      have e57 : G.1 57 = h.1 57 := funext fun i => (hfr 57 i rfl).1
      have e7 : G.1 52 7 = L := (hfr 52 7 rfl).1.trans h1
      have rm := c_X9_number (d := d - 1) (by omega) G 4 q L b 1439 (by omega) hb (by decide) h5 e7 hL hq (by rw [e57]; exact hB)
      rw [e57] at rm
      have vA := nmF_v (h.1 57) L 4 q 0 1 (by omega) (by omega)
      have t4 : tnF 4 = 10000 := rfl
      rw [t4] at vA
      have hA := nmF_q (h.1 57) L 4 q 0
      unfold rdF at e1 e2
      generalize nmF (h.1 57) L 4 q 0 = a at *
      have vC := nmF_v (h.1 57) L 3 (a.1 + 1) 0 1 (by omega) (by omega)
      have hC := nmF_q (h.1 57) L 3 (a.1 + 1) 0
      have t3 : tnF 3 = 1000 := rfl
      rw [t3] at vC
      have keep : ∀ {g : zH}, fr frTm G g → (∀ i, g.1 61 i = G.1 61 i) → (∀ i, g.1 62 i = G.1 62 i) → g.1 52 14 = G.1 52 14 → RM g (pre ++ []) := fun {g} _ w1 w2 w3 => by
        rw [List.append_nil]
        exact ⟨w3.trans h4, fun i hi => by rw [w1, w2]; exact hRM.2 i hi⟩
      refine zrun_sound t_X9_readPoints C E [12, 35, 95] 80 _ _ _ _ ?_
      refine zcall_i (d' := d - 1) (by omega) rm ?_
      rintro o g ⟨hfB, ⟨c1, g5, rfl⟩ | ⟨c1, g5, rfl⟩⟩
      · have frg := fr_trans hfr (fr_sub hfB (fun c i z => by simp [frTn, frTm] at z ⊢; omega))
        rw [if_pos c1] at e1 e2
        refine And.intro (by decide) (And.intro (fun _ => ?_) (fun z => absurd (by decide) z))
        refine zrun_sound t_X9_readPoints C E [] 60 _ _ _ _ ?_
        refine And.intro (Or.inl rfl) (And.intro frg (And.intro (Or.inr ⟨?_, rfl, ?_⟩) ?_))
        · rw [← e1]
          show (q : Int) ≠ -1
          omega
        · rw [← e1]
          exact g5
        · rw [← e2]
          exact keep (fr_sub hfB (fun c i z => by simp [frTn, frTm] at z ⊢; omega)) (fun i => (hfB 61 i rfl).1) (fun i => (hfB 62 i rfl).1) (hfB 52 14 rfl).1
      · have frg := fr_trans hfr (fr_sub hfB (fun c i z => by simp [frTn, frTm] at z ⊢; omega))
        have g57 : g.1 57 = h.1 57 := funext fun i => (frg 57 i rfl).1
        have g7 : g.1 52 7 = L := (frg 52 7 rfl).1.trans h1
        have by1 := c_X9_byteAt (d := d - 1) g a.1 L g5 g7 hL (by omega)
        rw [g57] at by1
        have bI : inR (if a.1 < L then h.1 57 a.1 else -1) := by
          by_cases w : a.1 < L
          · have := hB a.1 (by omega)
            rw [if_pos w]
            omega
          · rw [if_neg w]
            omega
        rw [if_neg c1] at e1 e2
        refine And.intro (by omega) (And.intro (fun z => absurd z (by omega)) (fun _ => ?_))
        refine zcall_i (d' := d - 1) (by omega) by1 ?_
        rintro _ _ ⟨rfl, rfl⟩
        refine And.intro bI (And.intro (by decide) (And.intro (fun z => ?_) (fun z => ?_)))
        · have c2 : a.1 < L ∧ h.1 57 a.1 = 58 := by
            by_cases w : a.1 < L
            · rw [if_pos w] at z
              exact ⟨w, z⟩
            · rw [if_neg w] at z
              omega
          rw [if_neg (not_not_intro c2)] at e1 e2
          have rh := c_X9_number (d := d - 1) (by omega) (setI g 52 15 (g.1 52 15 + 1)) 3 (a.1 + 1) L (-1) 999 (by omega) (by decide) (by decide) (by rw [setI_eq, g5]; rfl) (by rw [setI_n2 (by omega)]; exact g7) hL (by omega) (by rw [setI_ne (by omega), g57]; exact hB)
          have s57 : (setI g 52 15 (g.1 52 15 + 1)).1 57 = h.1 57 := by rw [setI_ne (by omega)]; exact g57
          rw [s57] at rh
          have hCL := hC.2 (by omega)
          generalize nmF (h.1 57) L 3 (a.1 + 1) 0 = c at *
          refine zcall_i (d' := d - 1) (by omega) rh ?_
          rintro o g2 ⟨hfC, ⟨c3, w5, rfl⟩ | ⟨c3, w5, rfl⟩⟩
          · have fr2 : fr frTm g g2 := fr_trans (fr_setI (fr_rfl _ _) rfl) (fr_sub hfC (fun c i z => by simp [frTn, frTm] at z ⊢; omega))
            have c3' : c.1 = a.1 + 1 := by omega
            rw [if_pos c3'] at e1 e2
            refine And.intro (by decide) (And.intro (fun z => absurd z (by decide)) (fun _ => ?_))
            refine And.intro (Or.inl rfl) (And.intro (fr_trans frg fr2) (And.intro (Or.inr ⟨?_, rfl, ?_⟩) ?_))
            · rw [← e1]
              show (c.1 : Int) ≠ -1
              omega
            · rw [← e1, w5, c3']
            · rw [← e2]
              refine keep (fr_trans (fr_sub hfB (fun c i z => by simp [frTn, frTm] at z ⊢; omega)) fr2) (fun i => ?_) (fun i => ?_) ?_
              · rw [(hfC 61 i rfl).1, setI_ne (by omega), (hfB 61 i rfl).1]
              · rw [(hfC 62 i rfl).1, setI_ne (by omega), (hfB 62 i rfl).1]
              · rw [(hfC 52 14 rfl).1, setI_n2 (by omega), (hfB 52 14 rfl).1]
          · have fr2 : fr frTm g g2 := fr_trans (fr_setI (fr_rfl _ _) rfl) (fr_sub hfC (fun c i z => by simp [frTn, frTm] at z ⊢; omega))
            have c3' : ¬ c.1 = a.1 + 1 := by omega
            rw [if_neg c3'] at e1 e2
            have w14 : g2.1 52 14 = pre.length := by rw [(hfC 52 14 rfl).1, setI_n2 (by omega), (hfB 52 14 rfl).1]; exact h4
            have w7 : g2.1 52 7 = L := (fr2 52 7 rfl).1.trans g7
            refine And.intro (by omega) (And.intro (fun _ => ?_) (fun z => absurd (show (0 : Int) ≤ c.2 by omega) z))
            have p0 : 0 ≤ g2.1 52 14 := by omega
            have p1 : g2.1 52 14 < 12 := by omega
            refine And.intro p0 (And.intro p1 (And.intro p0 (And.intro p1 ?_)))
            generalize hg3 : setI (setI (setI g2 61 (g2.1 52 14).toNat a.2) 62 (g2.1 52 14).toNat c.2) 52 14 (g2.1 52 14 + 1) = g3
            have fr3 : fr frTm h g3 := by
              rw [← hg3]
              exact fr_setI (fr_setI (fr_setI (fr_trans frg fr2) rfl) rfl) rfl
            have RMg : RM g3 (pre ++ [(a.2, c.2)]) := by
              rw [← hg3]
              refine ⟨?_, fun i hi => ?_⟩
              · rw [setI_eq, w14, List.length_append]
                rfl
              · have hi' : i < pre.length + 1 := by simpa using hi
                have t14 : (g2.1 52 14).toNat = pre.length := by omega
                have k61 : g2.1 61 i = G.1 61 i := by rw [(hfC 61 i rfl).1, setI_ne (by omega), (hfB 61 i rfl).1]
                have k62 : g2.1 62 i = G.1 62 i := by rw [(hfC 62 i rfl).1, setI_ne (by omega), (hfB 62 i rfl).1]
                rw [getD_app hi', t14, setI_ne (show 61 ≠ 52 by omega), setI_ne (show 62 ≠ 52 by omega), setI_ne (show 61 ≠ 62 by omega), setI_at, setI_at, setI_ne (show 62 ≠ 61 by omega), k61, k62]
                by_cases e : i = pre.length
                · rw [if_pos e, if_pos ⟨rfl, e⟩, if_pos ⟨rfl, e⟩]
                  exact ⟨rfl, rfl⟩
                · rw [if_neg e, if_neg (fun y => e y.2), if_neg (fun y => e y.2)]
                  exact hRM.2 i (by omega)
            have v15 : g3.1 52 15 = c.1 := by
              rw [← hg3, setI_n2 (by omega), setI_ne (by omega), setI_ne (by omega)]
              exact w5
            have v7 : g3.1 52 7 = L := (fr3 52 7 rfl).1.trans h1
            have v14 : g3.1 52 14 = pre.length + 1 := by
              rw [RMg.1, List.length_append]
              rfl
            have v57 : g3.1 57 = h.1 57 := funext fun i => (fr3 57 i rfl).1
            have by2 := c_X9_byteAt (d := d - 1) g3 c.1 L v15 v7 hL (by omega)
            rw [v57] at by2
            have i5 : inR (g3.1 52 15) := by omega
            have i7 : inR (g3.1 52 7) := by omega
            have i14 : inR (g3.1 52 14) := by omega
            have at95 : zJ X 95 [some (sR 52), some (sI a.2), some (sI a.2), some (sI c.2)] [] g3 := by
              refine zrun_sound t_X9_readPoints C E [12, 126] 60 _ _ _ _ ?_
              refine And.intro i5 (And.intro i7 (And.intro (fun z2 => ?_) (fun z2 => ?_)))
              · replace z2 : g3.1 52 15 ≠ g3.1 52 7 := z2
                have c4 : ¬ ¬ c.1 < L := by omega
                rw [if_neg c4] at e1 e2
                have ot : (¬ h.1 57 c.1 = 59 ∨ f = 0) → zJ X 126 [some (sR 52), some (sI a.2), some (sI a.2), some (sI c.2)] [] g3 := fun c5 => by
                  rw [if_pos c5] at e1 e2
                  refine zrun_sound t_X9_readPoints C E [] 60 _ _ _ _ ?_
                  refine And.intro (Or.inl rfl) (And.intro fr3 (And.intro (Or.inr ⟨?_, rfl, ?_⟩) ?_))
                  · rw [← e1]
                    show (c.1 : Int) ≠ -1
                    omega
                  · rw [← e1]
                    exact v15
                  · rw [← e2]
                    exact RMg
                refine zcall_i (d' := d - 1) (by omega) by2 ?_
                rintro _ _ ⟨rfl, rfl⟩
                have cL : c.1 < L := by omega
                have hbc := hB c.1 (by omega)
                rw [if_pos cL]
                refine And.intro (by omega) (And.intro (by decide) (And.intro (fun z3 => ot (Or.inl z3)) (fun z3 => ?_)))
                refine And.intro i14 (And.intro (by decide) (And.intro (fun z4 => ?_) (fun z4 => ?_)))
                · replace z4 : g3.1 52 14 ≠ 12 := z4
                  have c5 : ¬ (¬ h.1 57 c.1 = 59 ∨ f = 0) := by omega
                  rw [if_neg c5] at e1 e2
                  obtain ⟨f', rfl⟩ : ∃ f', f = f' + 1 := ⟨f - 1, by omega⟩
                  refine zJ_le (ih f' (by omega) (c.1 + 1) a.2 (pre ++ [(a.2, c.2)]) (setI g3 52 15 (g3.1 52 15 + 1)) (by simp; omega) (fr_setI fr3 rfl) ⟨?_, fun i hi => ?_⟩ ?_ (by omega) (by omega) e1 (by rw [List.append_assoc]; exact e2)) (And.intro rfl (And.intro rfl trivial)) rfl rfl
                  · rw [setI_n2 (by omega)]
                    exact RMg.1
                  · rw [setI_ne (show 61 ≠ 52 by omega), setI_ne (show 62 ≠ 52 by omega)]
                    exact RMg.2 i hi
                  · rw [setI_eq, v15]
                    rfl
                · replace z4 : g3.1 52 14 = 12 := z4
                  exact ot (Or.inr (by omega))
              · replace z2 : g3.1 52 15 = g3.1 52 7 := z2
                have c4 : ¬ c.1 < L := by omega
                rw [if_pos c4] at e1 e2
                refine And.intro (Or.inr rfl) (And.intro fr3 (And.intro (Or.inl ⟨e1.symm, rfl⟩) ?_))
                rw [← e2]
                exact RMg
            exact zJ_le at95 (And.intro rfl (And.intro rfl (And.intro rfl (And.intro rfl trivial)))) rfl hg3.symm
        · have c2 : ¬ (a.1 < L ∧ h.1 57 a.1 = 58) := fun w => by
            rw [if_pos w.1] at z
            exact z w.2
          rw [if_pos c2] at e1 e2
          refine zrun_sound t_X9_readPoints C E [] 60 _ _ _ _ ?_
          refine And.intro (Or.inl rfl) (And.intro frg (And.intro (Or.inr ⟨?_, rfl, ?_⟩) ?_))
          · rw [← e1]
            show (a.1 : Int) ≠ -1
            omega
          · rw [← e1]
            exact g5
          · rw [← e2]
            exact keep (fr_sub hfB (fun c i z => by simp [frTn, frTm] at z ⊢; omega)) (fun i => (hfB 61 i rfl).1) (fun i => (hfB 62 i rfl).1) (hfB 52 14 rfl).1
  refine zrun_sound t_X9_readPoints C E [12] 60 _ _ _ _ ?_
  exact zJ_le (loop 11 0 (-1) [] (setI (setI h 52 15 0) 52 14 0) rfl (fr_setI (fr_setI (fr_rfl _ _) rfl) rfl) ⟨rfl, fun i hi => absurd hi (Nat.not_lt_zero i)⟩ rfl (by omega) (by omega) (by rw [hR]) (by rw [hR]; rfl)) (And.intro rfl (And.intro rfl trivial)) rfl rfl
