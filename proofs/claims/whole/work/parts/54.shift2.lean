/-- the first loop: what is carried; the second: where it goes -/
def shA1 (h H : zH) (p t : Nat) : Prop := H.1 = h.1 ∧ (∀ c, c ≠ 81 → H.2 c = h.2 c) ∧ ∀ x, x < t → H.2 81 x = h.2 80 (p + x)
def shA2 (h H : zH) (p q n t : Nat) : Prop := H.1 = h.1 ∧ (∀ c, c ≠ 80 → c ≠ 81 → H.2 c = h.2 c) ∧ (∀ x, x < n → H.2 81 x = h.2 80 (p + x)) ∧ ∀ x, H.2 80 x = if q ≤ x ∧ x < q + t then h.2 80 (p + (x - q)) else h.2 80 x
theorem shA1_s {h H : zH} {p t : Nat} (a : shA1 h H p t) : shA1 h (setL H 81 t (H.2 80 (p + t))) p (t + 1) := by
  obtain ⟨a1, a2, a3⟩ := a
  refine ⟨a1, fun c hc => funext fun i => ?_, fun x hx => ?_⟩
  · rw [setL_at, if_neg (fun z => hc z.1), a2 c hc]
  · rw [setL_at]
    by_cases e : x = t
    · rw [if_pos ⟨rfl, e⟩, a2 80 (by omega), e]
    · rw [if_neg (fun z => e z.2)]
      exact a3 x (by omega)
theorem shA2_s {h H : zH} {p q n t : Nat} (a : shA2 h H p q n t) (ht : t < n) : shA2 h (setL H 80 (q + t) (H.2 81 t)) p q n (t + 1) := by
  obtain ⟨a1, a2, a3, a4⟩ := a
  refine ⟨a1, fun c hc hc2 => funext fun i => ?_, fun x hx => ?_, fun x => ?_⟩
  · rw [setL_at, if_neg (fun z => hc z.1), a2 c hc hc2]
  · rw [setL_at, if_neg (fun z => absurd z.1 (by decide))]
    exact a3 x hx
  · rw [setL_at]
    by_cases e : x = q + t
    · rw [if_pos ⟨rfl, e⟩, if_pos (by omega), a3 t ht, e, show q + t - q = t by omega]
    · rw [if_neg (fun z => e z.2), a4 x]
      by_cases e2 : q ≤ x ∧ x < q + t
      · rw [if_pos e2, if_pos (by omega)]
      · rw [if_neg e2, if_neg (by omega)]
set_option maxHeartbeats 2000000 in
theorem c_X9_shift {d : Nat} (hd : 6 ≤ d) (h : zH) (a i b j n : Int) (ha : inR a) (hi : inR i) (hb : inR b) (hj : inR j) (hn : inR n) (hS : Ishf0 h) :
    zC d k_X9_shift [sR 52, sI a, sI i, sI b, sI j, sI n] h (fun o g => (¬ okS h a i b j n ∧ g = h ∧ o = some (sI (erS h a b))) ∨ (okS h a i b j n ∧ shA2 h g (60 * a + i).toNat (60 * b + j).toNat n.toNat n.toNat ∧ o = some (sI n))) := by
  refine zC_of (by decide +kernel) (Nat.le_of_ble_eq_true rfl) (fun X C E => ?_)
  have loop2 : okS h a i b j n → ∀ (f t : Nat) (H : zH), t + f = n.toNat → shA2 h H (60 * a + i).toNat (60 * b + j).toNat n.toNat t → zJ X 150 [some (sR 52), some (sI a), some (sI i), some (sI b), some (sI j), some (sI n), some (sI t)] [] H := by
    intro ok f
    have ok2 := ok
    obtain ⟨o1, o2, o3, o4, o5, o6, o7, o8, o9, o10⟩ := ok2
    have L1 := ((Ishf_R hS a.toNat (by omega)).2 o3 o4).2
    have L2 := ((Ishf_R hS b.toNat (by omega)).2 (by omega) (by omega)).2
    induction f with
    | zero =>
      intro t H ht hA
      refine zrun_sound t_X9_shift C E [] 60 _ _ _ _ ?_
      refine And.intro (by omega) (And.intro hn (And.intro (fun c => ?_) (fun c => absurd (by omega) c)))
      have : t = n.toNat := by omega
      subst this
      exact Or.inr ⟨ok, hA, rfl⟩
    | succ f ih =>
      intro t H ht hA
      have tn : (60 * b + j + (t : Int)).toNat = (60 * b + j).toNat + t := by omega
      refine zrun_sound t_X9_shift C E [150] 60 _ _ _ _ ?_
      refine And.intro (by omega) (And.intro hn (And.intro (fun c => absurd c (by omega)) (fun c => ?_)))
      refine And.intro (by omega) (And.intro (by omega) ?_)
      refine And.intro (by omega) (And.intro (by omega) ?_)
      rw [tn]
      exact zJ_le (ih (t + 1) _ (by omega) (shA2_s hA (by omega))) (And.intro rfl (And.intro rfl (And.intro rfl (And.intro rfl (And.intro rfl (And.intro rfl (And.intro rfl trivial))))))) rfl rfl
  have loop1 : okS h a i b j n → ∀ (f t : Nat) (H : zH), t + f = n.toNat → shA1 h H (60 * a + i).toNat t → zJ X 113 [some (sR 52), some (sI a), some (sI i), some (sI b), some (sI j), some (sI n), some (sI t)] [] H := by
    intro ok f
    have ok2 := ok
    obtain ⟨o1, o2, o3, o4, o5, o6, o7, o8, o9, o10⟩ := ok2
    have L1 := ((Ishf_R hS a.toNat (by omega)).2 o3 o4).2
    have L2 := ((Ishf_R hS b.toNat (by omega)).2 (by omega) (by omega)).2
    induction f with
    | zero =>
      intro t H ht hA
      refine zrun_sound t_X9_shift C E [150] 60 _ _ _ _ ?_
      refine And.intro (by omega) (And.intro hn (And.intro (fun c => ?_) (fun c => absurd (by omega) c)))
      obtain ⟨a1, a2, a3⟩ := hA
      exact zJ_le (loop2 ok n.toNat 0 H (by omega) ⟨a1, fun c hc hc2 => a2 c hc2, fun x hx => a3 x (by omega), fun x => by rw [if_neg (by omega), a2 80 (by omega)]⟩) (And.intro rfl (And.intro rfl (And.intro rfl (And.intro rfl (And.intro rfl (And.intro rfl (And.intro rfl trivial))))))) rfl rfl
    | succ f ih =>
      intro t H ht hA
      have tn : (60 * a + i + (t : Int)).toNat = (60 * a + i).toNat + t := by omega
      refine zrun_sound t_X9_shift C E [113] 60 _ _ _ _ ?_
      refine And.intro (by omega) (And.intro hn (And.intro (fun c => absurd c (by omega)) (fun c => ?_)))
      refine And.intro (by omega) (And.intro (by omega) ?_)
      refine And.intro (by omega) (And.intro (by omega) ?_)
      rw [tn]
      exact zJ_le (ih (t + 1) _ (by omega) (shA1_s hA)) (And.intro rfl (And.intro rfl (And.intro rfl (And.intro rfl (And.intro rfl (And.intro rfl (And.intro rfl trivial))))))) rfl rfl
  have e13 : ¬ okS h a i b j n → erS h a b = -13 → zJ X 107 [some (sR 52), some (sI a), some (sI i), some (sI b), some (sI j), some (sI n)] [] h := fun q1 q2 => zrun_sound t_X9_shift C E [] 60 _ _ _ _ (Or.inl ⟨q1, rfl, by rw [q2]⟩)
  have e12 : ¬ okS h a i b j n → erS h a b = -12 → zJ X 63 [some (sR 52), some (sI a), some (sI i), some (sI b), some (sI j), some (sI n)] [] h := fun q1 q2 => zrun_sound t_X9_shift C E [] 60 _ _ _ _ (Or.inl ⟨q1, rfl, by rw [q2]⟩)
  have e11 : ¬ okS h a i b j n → erS h a b = -11 → zJ X 34 [some (sR 52), some (sI a), some (sI i), some (sI b), some (sI j), some (sI n)] [] h := fun q1 q2 => zrun_sound t_X9_shift C E [] 60 _ _ _ _ (Or.inl ⟨q1, rfl, by rw [q2]⟩)
  refine zrun_sound t_X9_shift C E [34, 63, 107, 113] 60 _ _ _ _ ?_
  refine zcall_i (d' := d - 1) (by omega) (c_X9_isShelf (by omega) h a ha) ?_
  rintro _ _ ⟨rfl, rfl⟩
  refine And.intro g_in (And.intro (fun c1 => Or.inl ⟨fun z => g_f c1 z.1, rfl, by unfold erS; rw [if_neg (fun z => g_f c1 z.1)]⟩) (fun c1 => ?_))
  refine zcall_i (d' := d - 1) (by omega) (c_X9_isShelf (by omega) h b hb) ?_
  rintro _ _ ⟨rfl, rfl⟩
  refine And.intro g_in (And.intro (fun c2 => ?_) (fun c2 => Or.inl ⟨fun z => g_f c2 z.2.1, rfl, by unfold erS; rw [if_neg (fun z => g_f c2 z.2)]⟩))
  have q1 := g_t c1
  have q2 := g_t c2
  have a0 := q1.1
  have a1 : a < 6 := by omega
  have b0 := q2.1
  have b1 : b < 6 := by omega
  have S1 := hS a.toNat (by omega)
  have S2 := hS b.toNat (by omega)
  have er1 : (h.1 (8 + a.toNat) 0 = -1 ∨ h.1 (8 + b.toNat) 0 = -1) → ¬ okS h a i b j n ∧ erS h a b = -11 := fun c => ⟨fun z => by unfold okS at z; omega, by unfold erS; rw [if_pos ⟨q1, q2⟩, if_pos c]⟩
  have er2 : ¬ (h.1 (8 + a.toNat) 0 = -1 ∨ h.1 (8 + b.toNat) 0 = -1) → (h.1 (8 + a.toNat) 0 = 5 ∨ ¬ h.1 (8 + a.toNat) 0 = h.1 (8 + b.toNat) 0) → ¬ okS h a i b j n ∧ erS h a b = -12 := fun c c2 => ⟨fun z => by unfold okS at z; omega, by unfold erS; rw [if_pos ⟨q1, q2⟩, if_neg c, if_pos c2]⟩
  have er3 : ¬ (h.1 (8 + a.toNat) 0 = -1 ∨ h.1 (8 + b.toNat) 0 = -1) → ¬ (h.1 (8 + a.toNat) 0 = 5 ∨ ¬ h.1 (8 + a.toNat) 0 = h.1 (8 + b.toNat) 0) → erS h a b = -13 := fun c c2 => by unfold erS; rw [if_pos ⟨q1, q2⟩, if_neg c, if_neg c2]
  obtain ⟨fr0, hfr⟩ : ∃ x, x = h.1 (8 + a.toNat) 0 := ⟨_, rfl⟩
  obtain ⟨to0, hto⟩ : ∃ x, x = h.1 (8 + b.toNat) 0 := ⟨_, rfl⟩
  obtain ⟨A, hA⟩ : ∃ x, x = h.1 78 a.toNat := ⟨_, rfl⟩
  obtain ⟨B, hB⟩ : ∃ x, x = h.1 78 b.toNat := ⟨_, rfl⟩
  obtain ⟨LA, hLA⟩ : ∃ x, x = h.1 79 a.toNat := ⟨_, rfl⟩
  obtain ⟨LB, hLB⟩ : ∃ x, x = h.1 79 b.toNat := ⟨_, rfl⟩
  rw [← hfr, ← hto] at er1 er2 er3
  rw [← hfr, ← hA, ← hLA] at S1
  rw [← hto, ← hB, ← hLB] at S2
  have iA : inR (h.1 78 a.toNat) := by rw [← hA]; omega
  have iB : inR (h.1 78 b.toNat) := by rw [← hB]; omega
  refine And.intro a0 (And.intro a1 (And.intro iA (And.intro (fun c3 => ?_) (fun c3 => ?_))))
  · replace c3 : h.1 78 a.toNat < 0 := c3
    rw [← hA] at c3
    have := er1 (by omega)
    exact e11 this.1 this.2
  replace c3 : ¬ h.1 78 a.toNat < 0 := c3
  rw [← hA] at c3
  refine And.intro b0 (And.intro b1 (And.intro iB (And.intro (fun c4 => ?_) (fun c4 => ?_))))
  · replace c4 : 0 ≤ h.1 78 b.toNat := c4
    rw [← hB] at c4
    refine And.intro a0 (And.intro a1 (And.intro iA (And.intro (by decide) (And.intro (fun c5 => ?_) (fun c5 => ?_)))))
    · replace c5 : h.1 78 a.toNat < 50 := c5
      rw [← hA] at c5
      have := er2 (by omega) (by omega)
      exact e12 this.1 this.2
    · replace c5 : ¬ h.1 78 a.toNat < 50 := c5
      rw [← hA] at c5
      refine And.intro a0 (And.intro a1 (And.intro b0 (And.intro b1 (And.intro iA (And.intro iB (And.intro (fun c6 => ?_) (fun c6 => ?_)))))))
      · replace c6 : h.1 78 a.toNat = h.1 78 b.toNat := c6
        rw [← hA, ← hB] at c6
        have eqs : ¬ (fr0 = -1 ∨ to0 = -1) ∧ ¬ (fr0 = 5 ∨ ¬ fr0 = to0) ∧ LA = h.1 (8 + a.toNat) 3 ∧ LB = h.1 (8 + b.toNat) 3 ∧ (0 ≤ LA ∧ LA ≤ 60) ∧ 0 ≤ LB ∧ LB ≤ 60 := by omega
        obtain ⟨g1, g2, g3, g4, g5, g6⟩ := eqs
        have e13' := fun q => e13 q (er3 g1 g2)
        have iLA : inR (h.1 79 a.toNat - n) ∨ n < 0 := by rw [← hLA]; omega
        refine And.intro hn (And.intro (fun c7 => e13' (fun z => by unfold okS at z; omega)) (fun c7 => ?_))
        refine And.intro hi (And.intro (fun c8 => e13' (fun z => by unfold okS at z; omega)) (fun c8 => ?_))
        refine And.intro hj (And.intro (fun c9 => e13' (fun z => by unfold okS at z; omega)) (fun c9 => ?_))
        have iLA : inR (h.1 79 a.toNat - n) := by rw [← hLA]; omega
        have iLB : inR (h.1 79 b.toNat - n) := by rw [← hLB]; omega
        refine And.intro a0 (And.intro a1 (And.intro hi (And.intro iLA (And.intro (fun c10 => ?_) (fun c10 => ?_)))))
        · replace c10 : h.1 79 a.toNat - n < i := c10
          rw [← hLA] at c10
          exact e13' (fun z => by unfold okS at z; omega)
        · replace c10 : ¬ h.1 79 a.toNat - n < i := c10
          rw [← hLA] at c10
          refine And.intro b0 (And.intro b1 (And.intro hj (And.intro iLB (And.intro (fun c11 => ?_) (fun c11 => ?_)))))
          · replace c11 : j ≤ h.1 79 b.toNat - n := c11
            rw [← hLB] at c11
            exact zJ_le (loop1 ⟨q1, q2, by omega, by omega, by omega, by omega, by omega, by omega, by omega, by omega⟩ n.toNat 0 h (by omega) ⟨rfl, fun _ _ => rfl, fun x hx => absurd hx (by omega)⟩) (And.intro rfl (And.intro rfl (And.intro rfl (And.intro rfl (And.intro rfl (And.intro rfl (And.intro rfl trivial))))))) rfl rfl
          · replace c11 : ¬ j ≤ h.1 79 b.toNat - n := c11
            rw [← hLB] at c11
            exact e13' (fun z => by unfold okS at z; omega)
      · replace c6 : ¬ h.1 78 a.toNat = h.1 78 b.toNat := c6
        rw [← hA, ← hB] at c6
        have := er2 (by omega) (by omega)
        exact e12 this.1 this.2
  · replace c4 : ¬ 0 ≤ h.1 78 b.toNat := c4
    rw [← hB] at c4
    have := er1 (by omega)
    exact e11 this.1 this.2
theorem pr_shift {d : Nat} (hd : 6 ≤ d) {a i b j n : Int} (ha : inR a) (hi : inR i) (hb : inR b) (hj : inR j) (hn : inR n) : Pair2 d k_X8_shift k_X9_shift [sI a, sI i, sI b, sI j, sI n] := fun h hI => by
  have i9 := hI.1.2.2.2.2.2.2.2.2.1
  have i0 := Ishf0_of i9 hI.1.2.2.2.2.2.2.2.1.2.1.2
  refine zC_mono (c_X8_shift hd h a i b j n ha hi hb hj hn i0) ?_
  rintro o g (⟨q, rfl, rfl⟩ | ⟨q, rfl, rfl⟩)
  · refine ⟨_, rfl, zC_mono (c_X9_shift hd g a i b j n ha hi hb hj hn i0) ?_⟩
    rintro o g' (⟨z, rfl, rfl⟩ | ⟨z, -⟩)
    · exact ⟨rfl, hI⟩
    · exact absurd z q
  · refine ⟨_, rfl, zC_mono (c_X9_shift hd (cpL h (46 + a.toNat) i.toNat (46 + b.toNat) j.toNat n.toNat) a i b j n ha hi hb hj hn i0) ?_⟩
    rintro o g' (⟨z, -, -⟩ | ⟨z, z2, rfl⟩)
    · exact absurd q z
    · obtain ⟨o1, o2, o3, o4, o5, o6, o7, o8, o9, o10⟩ := q
      have L1 := ((Ishf_R i0 a.toNat (by omega)).2 o3 o4).2
      have L2 := ((Ishf_R i0 b.toNat (by omega)).2 (by omega) (by omega)).2
      obtain ⟨s1, s2, s3, s4⟩ := z2
      have k80 : (cpL h (46 + a.toNat) i.toNat (46 + b.toNat) j.toNat n.toNat).2 80 = h.2 80 := funext fun x => by
        show (if 80 = 46 + b.toNat then _ else h.2 80 x) = _
        rw [if_neg (by omega)]
      rw [k80] at s4
      refine ⟨rfl, Inv_shf hI (fun c _ => by rw [s1]; rfl) (fun k hk => ?_)⟩
      have f1 : ∀ c, g'.1 c = h.1 c := fun c => by rw [s1]; rfl
      have f2 : g'.2 (46 + k) = (cpL h (46 + a.toNat) i.toNat (46 + b.toNat) j.toNat n.toNat).2 (46 + k) := s2 _ (by omega) (by omega)
      rw [f1, f1, f1, f1, f2]
      rcases i9 k hk with y | y | ⟨y1, y2, y3, y4, y5⟩
      · exact Or.inl y
      · exact Or.inr (Or.inl y)
      · refine Or.inr (Or.inr ⟨y1, y2, y3, y4, fun x hx => ?_⟩)
        rw [s4]
        show _ = if 46 + k = 46 + b.toNat then va_cpy (h.2 (46 + a.toNat)) (h.2 (46 + b.toNat)) i.toNat j.toNat n.toNat x else h.2 (46 + k) x
        by_cases e : k = b.toNat
        · rw [if_pos (show 46 + k = 46 + b.toNat by omega)]
          unfold va_cpy
          by_cases e2 : j.toNat ≤ x ∧ x < j.toNat + n.toNat
          · rw [if_pos (show (60 * b + j).toNat ≤ 60 * k + x ∧ 60 * k + x < (60 * b + j).toNat + n.toNat by omega), if_pos e2]
            rcases i9 a.toNat (by omega) with ⟨w, -⟩ | ⟨w, -⟩ | ⟨-, -, -, -, w⟩
            · exact absurd w o3
            · exact absurd w o4
            · rw [← w _ (by omega)]
              exact congrArg (h.2 80) (by omega)
          · rw [if_neg (show ¬ ((60 * b + j).toNat ≤ 60 * k + x ∧ 60 * k + x < (60 * b + j).toNat + n.toNat) by omega), if_neg e2, ← e]
            exact y5 x hx
        · rw [if_neg (show ¬ ((60 * b + j).toNat ≤ 60 * k + x ∧ 60 * k + x < (60 * b + j).toNat + n.toNat) by omega), if_neg (show ¬ 46 + k = 46 + b.toNat by omega)]
          exact y5 x hx
