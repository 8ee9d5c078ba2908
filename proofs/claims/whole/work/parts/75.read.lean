/-! ===== tide: what a tape says ===== -/
def nmF (B : Nat → Int) (L : Nat) : Nat → Nat → Int → Nat × Int
  | 0, q, v => (q, v)
  | k + 1, q, v => if q < L ∧ 48 ≤ B q ∧ B q ≤ 57 then nmF B L k (q + 1) (10 * v + B q - 48) else (q, v)
def tnF : Nat → Int
  | 0 => 1
  | k + 1 => 10 * tnF k
theorem tnF_1 : ∀ k, 1 ≤ tnF k
  | 0 => Int.le_refl _
  | k + 1 => by
    have := tnF_1 k
    show 1 ≤ 10 * tnF k
    omega
theorem nmF_q (B : Nat → Int) (L : Nat) : ∀ (k q : Nat) (v : Int), q ≤ (nmF B L k q v).1 ∧ (q ≤ L → (nmF B L k q v).1 ≤ L)
  | 0, q, v => ⟨Nat.le_refl _, fun h => h⟩
  | k + 1, q, v => by
    unfold nmF
    by_cases c : q < L ∧ 48 ≤ B q ∧ B q ≤ 57
    · rw [if_pos c]
      have := nmF_q B L k (q + 1) (10 * v + B q - 48)
      exact ⟨by omega, fun _ => this.2 (by omega)⟩
    · rw [if_neg c]
      exact ⟨Nat.le_refl _, fun h => h⟩
theorem nmF_v (B : Nat → Int) (L : Nat) : ∀ (k q : Nat) (v W : Int), 0 ≤ v → v + 1 ≤ W → 0 ≤ (nmF B L k q v).2 ∧ (nmF B L k q v).2 + 1 ≤ W * tnF k
  | 0, q, v, W, h0, h1 => ⟨h0, by show v + 1 ≤ W * 1; omega⟩
  | k + 1, q, v, W, h0, h1 => by
    unfold nmF
    have ew : W * tnF (k + 1) = 10 * W * tnF k := by
      show W * (10 * tnF k) = _
      rw [← Int.mul_assoc, Int.mul_comm W 10]
    by_cases c : q < L ∧ 48 ≤ B q ∧ B q ≤ 57
    · rw [if_pos c, ew]
      exact nmF_v B L k (q + 1) (10 * v + B q - 48) (10 * W) (by omega) (by omega)
    · rw [if_neg c]
      have := Int.mul_le_mul_of_nonneg_left (tnF_1 (k + 1)) (show 0 ≤ W by omega)
      refine ⟨h0, ?_⟩
      show v + 1 ≤ _
      omega
theorem nmF_c {B B' : Nat → Int} {L : Nat} (hL : L ≤ 120) (hB : ∀ i, i < 120 → B i = B' i) : ∀ (k q : Nat) (v : Int), nmF B L k q v = nmF B' L k q v
  | 0, q, v => rfl
  | k + 1, q, v => by
    unfold nmF
    by_cases c : q < L
    · rw [← hB q (by omega), nmF_c hL hB k]
    · rw [if_neg (fun z => c z.1), if_neg (fun z => c z.1)]
def rdF (B : Nat → Int) (L : Nat) : Nat → Nat → Int → Int × List (Int × Int)
  | 0, q, _ => (q, [])
  | f + 1, q, b =>
    if (nmF B L 4 q 0).1 = q ∨ (nmF B L 4 q 0).2 ≤ b ∨ 1439 < (nmF B L 4 q 0).2 then (q, [])
    else if ¬ ((nmF B L 4 q 0).1 < L ∧ B (nmF B L 4 q 0).1 = 58) then ((nmF B L 4 q 0).1, [])
    else if (nmF B L 3 ((nmF B L 4 q 0).1 + 1) 0).1 = (nmF B L 4 q 0).1 + 1 then ((nmF B L 3 ((nmF B L 4 q 0).1 + 1) 0).1, [])
    else if ¬ (nmF B L 3 ((nmF B L 4 q 0).1 + 1) 0).1 < L then (-1, [((nmF B L 4 q 0).2, (nmF B L 3 ((nmF B L 4 q 0).1 + 1) 0).2)])
    else if ¬ B (nmF B L 3 ((nmF B L 4 q 0).1 + 1) 0).1 = 59 ∨ f = 0 then ((nmF B L 3 ((nmF B L 4 q 0).1 + 1) 0).1, [((nmF B L 4 q 0).2, (nmF B L 3 ((nmF B L 4 q 0).1 + 1) 0).2)])
    else ((rdF B L f ((nmF B L 3 ((nmF B L 4 q 0).1 + 1) 0).1 + 1) (nmF B L 4 q 0).2).1, ((nmF B L 4 q 0).2, (nmF B L 3 ((nmF B L 4 q 0).1 + 1) 0).2) :: (rdF B L f ((nmF B L 3 ((nmF B L 4 q 0).1 + 1) 0).1 + 1) (nmF B L 4 q 0).2).2)
theorem rdF_c {B B' : Nat → Int} {L : Nat} (hL : L ≤ 120) (hB : ∀ i, i < 120 → B i = B' i) : ∀ (f q : Nat) (b : Int), rdF B L f q b = rdF B' L f q b
  | 0, q, b => rfl
  | f + 1, q, b => by
    unfold rdF
    rw [nmF_c hL hB 4 q 0, nmF_c hL hB 3 _ 0]
    generalize nmF B' L 4 q 0 = a
    generalize nmF B' L 3 (a.1 + 1) 0 = c
    rw [rdF_c hL hB f]
    by_cases c1 : a.1 = q ∨ a.2 ≤ b ∨ 1439 < a.2
    · rw [if_pos c1, if_pos c1]
    · rw [if_neg c1, if_neg c1]
      by_cases c2 : a.1 < L
      · rw [← hB a.1 (by omega)]
        by_cases c3 : c.1 < L
        · rw [← hB c.1 (by omega)]
        · by_cases z1 : ¬ (a.1 < L ∧ B a.1 = 58)
          · rw [if_pos z1, if_pos z1]
          · rw [if_neg z1, if_neg z1]
            by_cases z2 : c.1 = a.1 + 1
            · rw [if_pos z2, if_pos z2]
            · rw [if_neg z2, if_neg z2, if_pos c3, if_pos c3]
      · rw [if_pos (fun z => c2 z.1), if_pos (fun z => c2 z.1)]
theorem rdF_len (B : Nat → Int) (L : Nat) : ∀ (f q : Nat) (b : Int), (rdF B L f q b).2.length ≤ f
  | 0, q, b => Nat.le_refl _
  | f + 1, q, b => by
    unfold rdF
    generalize nmF B L 4 q 0 = a
    generalize nmF B L 3 (a.1 + 1) 0 = c
    have := rdF_len B L f (c.1 + 1) a.2
    repeat' split
    all_goals simp only [List.length_nil, List.length_cons]
    all_goals omega
theorem rdF_r (B : Nat → Int) (L : Nat) (hL : L ≤ 120) : ∀ (f q : Nat) (b : Int), q ≤ L → -1 ≤ (rdF B L f q b).1 ∧ (rdF B L f q b).1 ≤ 121
  | 0, q, b, hq => ⟨by show -1 ≤ (q : Int); omega, by show (q : Int) ≤ 121; omega⟩
  | f + 1, q, b, hq => by
    have hA := nmF_q B L 4 q 0
    unfold rdF
    generalize nmF B L 4 q 0 = a at hA ⊢
    by_cases c1 : a.1 = q ∨ a.2 ≤ b ∨ 1439 < a.2
    · rw [if_pos c1]
      show -1 ≤ (q : Int) ∧ (q : Int) ≤ 121
      omega
    · rw [if_neg c1]
      by_cases c2 : ¬ (a.1 < L ∧ B a.1 = 58)
      · rw [if_pos c2]
        show -1 ≤ (a.1 : Int) ∧ (a.1 : Int) ≤ 121
        omega
      · rw [if_neg c2]
        have hC := nmF_q B L 3 (a.1 + 1) 0
        have : a.1 < L := (Classical.not_not.mp c2).1
        generalize nmF B L 3 (a.1 + 1) 0 = c at hC ⊢
        by_cases c3 : c.1 = a.1 + 1
        · rw [if_pos c3]
          show -1 ≤ (c.1 : Int) ∧ (c.1 : Int) ≤ 121
          omega
        · rw [if_neg c3]
          by_cases c4 : ¬ c.1 < L
          · rw [if_pos c4]
            show -1 ≤ (-1 : Int) ∧ (-1 : Int) ≤ 121
            omega
          · rw [if_neg c4]
            by_cases c5 : ¬ B c.1 = 59 ∨ f = 0
            · rw [if_pos c5]
              show -1 ≤ (c.1 : Int) ∧ (c.1 : Int) ≤ 121
              omega
            · rw [if_neg c5]
              exact rdF_r B L hL f (c.1 + 1) a.2 (by omega)
def lsOK (b : Int) (l : List (Int × Int)) : Prop := (∀ i, i < l.length → (b < (l.getD i (0, 0)).1 ∧ (l.getD i (0, 0)).1 ≤ 1439) ∧ (0 ≤ (l.getD i (0, 0)).2 ∧ (l.getD i (0, 0)).2 ≤ 999)) ∧ ∀ i, i + 1 < l.length → (l.getD i (0, 0)).1 < (l.getD (i + 1) (0, 0)).1
theorem lsOK_1 {b x y : Int} (h1 : b < x ∧ x ≤ 1439) (h2 : 0 ≤ y ∧ y ≤ 999) : lsOK b [(x, y)] := ⟨fun i hi => by
  rcases i with _ | i
  · exact ⟨h1, h2⟩
  · exact absurd hi (by simp), fun i hi => absurd hi (by simp)⟩
theorem lsOK_s {b x y : Int} {l : List (Int × Int)} (h1 : b < x ∧ x ≤ 1439) (h2 : 0 ≤ y ∧ y ≤ 999) (hl : lsOK x l) : lsOK b ((x, y) :: l) := by
  obtain ⟨l1, l2⟩ := hl
  refine ⟨fun i hi => ?_, fun i hi => ?_⟩
  · rcases i with _ | i
    · exact ⟨h1, h2⟩
    · have := l1 i (by simp at hi; omega)
      exact ⟨⟨Int.lt_trans h1.1 this.1.1, this.1.2⟩, this.2⟩
  · rcases i with _ | i
    · exact (l1 0 (by simp at hi; omega)).1.1
    · exact l2 i (by simp at hi; omega)
theorem rdF_ok (B : Nat → Int) (L : Nat) : ∀ (f q : Nat) (b : Int), (rdF B L f q b).1 = -1 → 1 ≤ (rdF B L f q b).2.length ∧ lsOK b (rdF B L f q b).2
  | 0, q, b => fun h => by
    replace h : (q : Int) = -1 := h
    omega
  | f + 1, q, b => by
    have vA := nmF_v B L 4 q 0 1 (by omega) (by omega)
    have t4 : tnF 4 = 10000 := rfl
    have t3 : tnF 3 = 1000 := rfl
    unfold rdF
    generalize nmF B L 4 q 0 = a at vA ⊢
    have vC := nmF_v B L 3 (a.1 + 1) 0 1 (by omega) (by omega)
    generalize nmF B L 3 (a.1 + 1) 0 = c at vC ⊢
    by_cases c1 : a.1 = q ∨ a.2 ≤ b ∨ 1439 < a.2
    · rw [if_pos c1]
      intro h
      replace h : (q : Int) = -1 := h
      omega
    · rw [if_neg c1]
      by_cases c2 : ¬ (a.1 < L ∧ B a.1 = 58)
      · rw [if_pos c2]
        intro h
        replace h : (a.1 : Int) = -1 := h
        omega
      · rw [if_neg c2]
        by_cases c3 : c.1 = a.1 + 1
        · rw [if_pos c3]
          intro h
          replace h : (c.1 : Int) = -1 := h
          omega
        · rw [if_neg c3]
          by_cases c4 : ¬ c.1 < L
          · rw [if_pos c4]
            exact fun _ => ⟨Nat.le_refl _, lsOK_1 (by omega) (by omega)⟩
          · rw [if_neg c4]
            by_cases c5 : ¬ B c.1 = 59 ∨ f = 0
            · rw [if_pos c5]
              intro h
              replace h : (c.1 : Int) = -1 := h
              omega
            · rw [if_neg c5]
              intro h
              have := rdF_ok B L f (c.1 + 1) a.2 h
              exact ⟨by simp, lsOK_s (by omega) (by omega) this.2⟩
theorem getD_app {l : List (Int × Int)} {x : Int × Int} {i : Nat} (h : i < l.length + 1) : (l ++ [x]).getD i (0, 0) = if i = l.length then x else l.getD i (0, 0) := by
  rw [List.getD_eq_getElem?_getD, List.getD_eq_getElem?_getD]
  by_cases c : i = l.length
  · subst c
    rw [if_pos rfl, List.getElem?_append_right (Nat.le_refl _), Nat.sub_self]
    rfl
  · rw [if_neg c, List.getElem?_append_left (by omega)]
/-! the class reads -/
abbrev frTa : Nat → Nat → Bool := fun c i => c == 1 && i == 5
theorem c_X7_digitIsNext {d : Nat} (h : zH) (q L : Nat) (h5 : h.1 1 5 = q) (h1 : h.1 1 1 = L) (hL : L ≤ 120) (hq : q ≤ 130) (hB : ∀ i : Nat, i < 120 → 0 ≤ h.1 16 i ∧ h.1 16 i ≤ 255) :
    zC d k_X7_digitIsNext [sR 1] h (fun o g => h = g ∧ isB o (q < L ∧ 48 ≤ h.1 16 q ∧ h.1 16 q ≤ 57)) := by
  have iq : inR (h.1 1 5) := by omega
  have il : inR (h.1 1 1) := by omega
  refine zC_of (by decide +kernel) (Nat.le_of_ble_eq_true rfl) (fun X C E => ?_)
  have no : ¬ (q < L ∧ 48 ≤ h.1 16 q ∧ h.1 16 q ≤ 57) → zJ X 43 [some (sR 1)] [] h := fun z => by
    refine zrun_sound t_X7_digitIsNext C E [] 60 _ _ _ _ ?_
    exact And.intro (Or.inl rfl) (And.intro rfl (Or.inr ⟨rfl, z⟩))
  refine zrun_sound t_X7_digitIsNext C E [43] 60 _ _ _ _ ?_
  refine And.intro iq (And.intro il (And.intro (fun z => no (by omega)) (fun z => ?_)))
  replace z : ¬ h.1 1 1 ≤ h.1 1 5 := z
  have b := hB q (by omega)
  have eq : (h.1 1 5).toNat = q := by omega
  have k0 : 0 ≤ h.1 1 5 := by omega
  have k1 : h.1 1 5 < 120 := by omega
  have bi : inR (h.1 16 (h.1 1 5).toNat) := by rw [eq]; omega
  refine And.intro k0 (And.intro k1 (And.intro bi (And.intro (by decide) (And.intro (fun z2 => ?_) (fun z2 => ?_)))))
  · replace z2 : h.1 16 (h.1 1 5).toNat < 48 := z2
    rw [eq] at z2
    exact no (by omega)
  · replace z2 : ¬ h.1 16 (h.1 1 5).toNat < 48 := z2
    rw [eq] at z2
    refine And.intro k0 (And.intro k1 (And.intro bi (And.intro (by decide) (And.intro (fun z3 => ?_) (fun z3 => ?_)))))
    · replace z3 : 57 < h.1 16 (h.1 1 5).toNat := z3
      rw [eq] at z3
      exact no (by omega)
    · replace z3 : ¬ 57 < h.1 16 (h.1 1 5).toNat := z3
      rw [eq] at z3
      exact And.intro (Or.inr rfl) (And.intro rfl (Or.inl ⟨rfl, by omega⟩))
theorem c_X7_readNumber {d : Nat} (hd : 2 ≤ d) (h : zH) (k q L : Nat) (hk : k ≤ 4) (h5 : h.1 1 5 = q) (h1 : h.1 1 1 = L) (hL : L ≤ 120) (hq : q ≤ L) (hB : ∀ i : Nat, i < 120 → 0 ≤ h.1 16 i ∧ h.1 16 i ≤ 255) :
    zC d k_X7_readNumber [sR 1, sI k] h (fun o g => fr frTa h g ∧ g.1 1 5 = (nmF (h.1 16) L k q 0).1 ∧ o = some (sI (nmF (h.1 16) L k q 0).2)) := by
  refine zC_of (by decide +kernel) (Nat.le_of_ble_eq_true rfl) (fun X C E => ?_)
  have loop : ∀ (f j q' : Nat) (v : Int) (G : zH), j + f = k → fr frTa h G → G.1 1 5 = q' → q' ≤ L → 0 ≤ v → v + 1 ≤ tnF j → nmF (h.1 16) L f q' v = nmF (h.1 16) L k q 0 → zJ X 4 [some (sR 1), some (sI k), some (sI v), some (sI j)] [] G := by
    intro f
    induction f with
    | zero =>
      intro j q' v G hj hf hq' hqL v0 v1 hn
      refine zrun_sound t_X7_readNumber C E [] 60 _ _ _ _ ?_
      refine And.intro (by omega) (And.intro (by omega) (And.intro (fun _ => ?_) (fun z => absurd (by omega) z)))
      rw [← hn]
      exact And.intro hf (And.intro hq' rfl)
    | succ f ih =>
      intro j q' v G hj hf hq' hqL v0 v1 hn
      have e16 : G.1 16 = h.1 16 := funext fun i => (hf 16 i rfl).1
      have e11 : G.1 1 1 = L := (hf 1 1 rfl).1.trans h1
      have tj : tnF j ≤ 1000 := by
        rcases (by omega : j = 0 ∨ j = 1 ∨ j = 2 ∨ j = 3) with rfl | rfl | rfl | rfl <;> decide
      have dn := c_X7_digitIsNext (d := d - 1) G q' L hq' e11 hL (by omega) (by rw [e16]; exact hB)
      rw [e16] at dn
      refine zrun_sound t_X7_readNumber C E [4, 50] 60 _ _ _ _ ?_
      refine And.intro (by omega) (And.intro (by omega) (And.intro (fun z => absurd z (by omega)) (fun _ => ?_)))
      refine zcall_i (d' := d - 1) (by omega) dn ?_
      rintro o g ⟨rfl, ⟨rfl, z⟩ | ⟨rfl, z⟩⟩
      · refine And.intro (by decide) (And.intro (fun y => absurd y (by decide)) (fun _ => ?_))
        have k0 : 0 ≤ G.1 1 5 := by omega
        have k1 : G.1 1 5 < 120 := by omega
        refine And.intro k0 (And.intro k1 ?_)
        have e : nmF (h.1 16) L (f + 1) q' v = nmF (h.1 16) L f (q' + 1) (10 * v + h.1 16 q' - 48) := by
          show (if q' < L ∧ 48 ≤ h.1 16 q' ∧ h.1 16 q' ≤ 57 then _ else _) = _
          rw [if_pos z]
        have t1 : tnF (j + 1) = 10 * tnF j := rfl
        refine zJ_le (ih (j + 1) (q' + 1) (10 * v + h.1 16 q' - 48) (setI G 1 5 (G.1 1 5 + 1)) (by omega) (fr_setI hf rfl) ?_ (by omega) (by omega) (by rw [t1]; omega) (e.symm.trans hn)) (And.intro rfl (And.intro rfl (And.intro ?_ (And.intro rfl trivial)))) rfl rfl
        · rw [setI_eq, hq']
          rfl
        · show sI (10 * v + h.1 16 q' - 48) = sI (v * 10 + G.1 16 (G.1 1 5).toNat - 48)
          rw [e16, hq', tnat, Int.mul_comm]
      · refine And.intro (by decide) (And.intro (fun _ => ?_) (fun y => absurd rfl y))
        have e : nmF (h.1 16) L (f + 1) q' v = (q', v) := by
          show (if q' < L ∧ 48 ≤ h.1 16 q' ∧ h.1 16 q' ≤ 57 then _ else _) = _
          rw [if_neg z]
        refine zrun_sound t_X7_readNumber C E [] 60 _ _ _ _ ?_
        rw [← hn, e]
        exact And.intro hf (And.intro hq' rfl)
  refine zrun_sound t_X7_readNumber C E [4] 60 _ _ _ _ ?_
  exact zJ_le (loop k 0 q 0 h (by omega) (fr_rfl _ _) h5 hq (by omega) (by decide) rfl) (And.intro rfl (And.intro rfl (And.intro rfl (And.intro rfl trivial)))) rfl rfl
abbrev frTb : Nat → Nat → Bool := fun c i => c == 17 || (c == 1 && i == 5)
theorem c_X7_readMinute {d : Nat} (hd : 3 ≤ d) (h : zH) (b : Int) (q L p : Nat) (hb : inR b) (h5 : h.1 1 5 = q) (h1 : h.1 1 1 = L) (h4 : h.1 1 4 = p) (hp : p < 12) (hL : L ≤ 120) (hq : q ≤ L) (hB : ∀ i : Nat, i < 120 → 0 ≤ h.1 16 i ∧ h.1 16 i ≤ 255) :
    zC d k_X7_readMinute [sR 1, sI b] h (fun o g => fr frTb h g ∧ ((((nmF (h.1 16) L 4 q 0).1 = q ∨ (nmF (h.1 16) L 4 q 0).2 ≤ b ∨ 1439 < (nmF (h.1 16) L 4 q 0).2) ∧ o = some (sI q) ∧ g.1 17 = h.1 17) ∨ (¬ ((nmF (h.1 16) L 4 q 0).1 = q ∨ (nmF (h.1 16) L 4 q 0).2 ≤ b ∨ 1439 < (nmF (h.1 16) L 4 q 0).2) ∧ ¬ ((nmF (h.1 16) L 4 q 0).1 < L ∧ h.1 16 (nmF (h.1 16) L 4 q 0).1 = 58) ∧ o = some (sI (nmF (h.1 16) L 4 q 0).1) ∧ g.1 17 = h.1 17) ∨ (¬ ((nmF (h.1 16) L 4 q 0).1 = q ∨ (nmF (h.1 16) L 4 q 0).2 ≤ b ∨ 1439 < (nmF (h.1 16) L 4 q 0).2) ∧ ((nmF (h.1 16) L 4 q 0).1 < L ∧ h.1 16 (nmF (h.1 16) L 4 q 0).1 = 58) ∧ o = some (sI (-1)) ∧ g.1 1 5 = ((nmF (h.1 16) L 4 q 0).1 + 1 : Nat) ∧ ∀ i : Nat, g.1 17 i = if i = p then (nmF (h.1 16) L 4 q 0).2 else h.1 17 i))) := by
  have rn := c_X7_readNumber (d := d - 1) (by omega) h 4 q L (by omega) h5 h1 hL hq hB
  have hA := nmF_q (h.1 16) L 4 q 0
  have vA := nmF_v (h.1 16) L 4 q 0 1 (by omega) (by omega)
  have t4 : tnF 4 = 10000 := rfl
  rw [t4] at vA
  generalize nmF (h.1 16) L 4 q 0 = a at *
  refine zC_of (by decide +kernel) (Nat.le_of_ble_eq_true rfl) (fun X C E => zrun_sound t_X7_readMinute C E [36, 63] 80 _ _ _ _ ?_)
  refine zcall_i (d' := d - 1) (by omega) rn ?_
  rintro o g ⟨hf, g5, rfl⟩
  have hfB : fr frTb h g := fr_sub hf (fun c i z => by simp [frTb, frTa] at z ⊢; omega)
  have e16 : g.1 16 = h.1 16 := funext fun i => (hf 16 i rfl).1
  have e17 : g.1 17 = h.1 17 := funext fun i => (hf 17 i rfl).1
  have e11 : g.1 1 1 = L := (hf 1 1 rfl).1.trans h1
  have e14 : g.1 1 4 = p := (hf 1 4 rfl).1.trans h4
  have i5 : inR (g.1 1 5) := by omega
  have i1 : inR (g.1 1 1) := by omega
  have ih : inR (h.1 1 5) := by omega
  refine And.intro i5 (And.intro ih (And.intro (fun z => ?_) (fun z => ?_)))
  · replace z : ¬ g.1 1 5 = h.1 1 5 := z
    have bad : (a.1 = q ∨ a.2 ≤ b ∨ 1439 < a.2) → zJ X 36 [some (sR 1), some (sI b), some (sI (h.1 1 5)), some (sI a.2)] [] g := fun w => by
      refine zrun_sound t_X7_readMinute C E [] 60 _ _ _ _ ?_
      exact And.intro hfB (Or.inl ⟨w, congrArg (fun v => some (sI v)) h5, e17⟩)
    refine And.intro (by omega) (And.intro hb (And.intro (fun z2 => bad (Or.inr (Or.inl z2))) (fun z2 => ?_)))
    refine And.intro (by omega) (And.intro (by decide) (And.intro (fun z3 => ?_) (fun z3 => bad (Or.inr (Or.inr (by omega))))))
    have c1 : ¬ (a.1 = q ∨ a.2 ≤ b ∨ 1439 < a.2) := by omega
    have bad2 : ¬ (a.1 < L ∧ h.1 16 a.1 = 58) → zJ X 63 [some (sR 1), some (sI b), some (sI (h.1 1 5)), some (sI a.2)] [] g := fun w => by
      refine zrun_sound t_X7_readMinute C E [] 60 _ _ _ _ ?_
      exact And.intro hfB (Or.inr (Or.inl ⟨c1, w, congrArg (fun v => some (sI v)) g5, e17⟩))
    refine And.intro i5 (And.intro i1 (And.intro (fun z4 => ?_) (fun z4 => ?_)))
    · replace z4 : g.1 1 1 ≤ g.1 1 5 := z4
      exact bad2 (by omega)
    · replace z4 : ¬ g.1 1 1 ≤ g.1 1 5 := z4
      have k0 : 0 ≤ g.1 1 5 := by omega
      have k1 : g.1 1 5 < 120 := by omega
      have eq : (g.1 1 5).toNat = a.1 := by omega
      have ev : g.1 16 (g.1 1 5).toNat = h.1 16 a.1 := by rw [e16, eq]
      have hb1 := hB a.1 (by omega)
      have bi : inR (g.1 16 (g.1 1 5).toNat) := by rw [ev]; omega
      refine And.intro k0 (And.intro k1 (And.intro bi (And.intro (by decide) (And.intro (fun z5 => ?_) (fun z5 => ?_)))))
      · replace z5 : g.1 16 (g.1 1 5).toNat = 58 := z5
        rw [ev] at z5
        have p0 : 0 ≤ g.1 1 4 := by omega
        have p1 : g.1 1 4 < 12 := by omega
        refine And.intro p0 (And.intro p1 ?_)
        refine And.intro (fr_setI (fr_setI hfB rfl) rfl) (Or.inr (Or.inr ⟨c1, ⟨by omega, z5⟩, rfl, ?_, fun i => ?_⟩))
        · show g.1 1 5 + 1 = _
          rw [g5]
          rfl
        · have e' : (setI g 1 5 (g.1 1 5 + 1)).1 17 = h.1 17 := by
            rw [setI_ne (show 17 ≠ 1 by omega)]
            exact e17
          rw [setI_at, e']
          show (if 17 = 17 ∧ i = (g.1 1 4).toNat then a.2 else h.1 17 i) = _
          by_cases w : i = p
          · rw [if_pos w]
            exact if_pos ⟨rfl, by omega⟩
          · rw [if_neg w]
            exact if_neg (fun y => w (by have := y.2; omega))
      · replace z5 : ¬ g.1 16 (g.1 1 5).toNat = 58 := z5
        rw [ev] at z5
        exact bad2 (fun w => z5 w.2)
  · replace z : g.1 1 5 = h.1 1 5 := z
    exact And.intro hfB (Or.inl ⟨Or.inl (by omega), congrArg (fun v => some (sI v)) (show g.1 1 5 = (q : Int) by omega), e17⟩)
abbrev frTc : Nat → Nat → Bool := fun c i => c == 18 || (c == 1 && i == 5)
theorem c_X7_readHeight {d : Nat} (hd : 3 ≤ d) (h : zH) (q L p : Nat) (h5 : h.1 1 5 = q) (h1 : h.1 1 1 = L) (h4 : h.1 1 4 = p) (hp : p < 12) (hL : L ≤ 120) (hq : q ≤ L) (hB : ∀ i : Nat, i < 120 → 0 ≤ h.1 16 i ∧ h.1 16 i ≤ 255) :
    zC d k_X7_readHeight [sR 1] h (fun o g => fr frTc h g ∧ g.1 1 5 = (nmF (h.1 16) L 3 q 0).1 ∧ (∀ i : Nat, g.1 18 i = if i = p then (nmF (h.1 16) L 3 q 0).2 else h.1 18 i) ∧ (((nmF (h.1 16) L 3 q 0).1 = q ∧ o = some (sI q)) ∨ (¬ (nmF (h.1 16) L 3 q 0).1 = q ∧ o = some (sI (-1))))) := by
  have rn := c_X7_readNumber (d := d - 1) (by omega) h 3 q L (by omega) h5 h1 hL hq hB
  have hA := nmF_q (h.1 16) L 3 q 0
  generalize nmF (h.1 16) L 3 q 0 = a at *
  refine zC_of (by decide +kernel) (Nat.le_of_ble_eq_true rfl) (fun X C E => zrun_sound t_X7_readHeight C E [] 80 _ _ _ _ ?_)
  refine zcall_i (d' := d - 1) (by omega) rn ?_
  rintro o g ⟨hf, g5, rfl⟩
  have hfC : fr frTc h g := fr_sub hf (fun c i z => by simp [frTc, frTa] at z ⊢; omega)
  have p0 : 0 ≤ h.1 1 4 := by omega
  have p1 : h.1 1 4 < 12 := by omega
  have i5 : inR (g.1 1 5) := by omega
  have ih : inR (h.1 1 5) := by omega
  have w18 : ∀ i : Nat, (setI g 18 (h.1 1 4).toNat a.2).1 18 i = if i = p then a.2 else h.1 18 i := fun i => by
    rw [setI_at, (hf 18 i rfl).1]
    by_cases w : i = p
    · rw [if_pos ⟨rfl, by omega⟩, if_pos w]
    · rw [if_neg (fun y => w (by have := y.2; omega)), if_neg w]
  refine And.intro p0 (And.intro p1 (And.intro i5 (And.intro ih (And.intro (fun z => ?_) (fun z => ?_)))))
  · replace z : ¬ g.1 1 5 = h.1 1 5 := z
    exact And.intro (fr_setI hfC rfl) (And.intro g5 (And.intro w18 (Or.inr ⟨by omega, rfl⟩)))
  · replace z : g.1 1 5 = h.1 1 5 := z
    exact And.intro (fr_setI hfC rfl) (And.intro g5 (And.intro w18 (Or.inl ⟨by omega, congrArg (fun v => some (sI v)) (show g.1 1 5 = (q : Int) by omega)⟩)))
