def bkR (g : zH) (P a dk : Nat) (φ : Nat → Nat → Nat → Prop) : Prop := ∀ p m y : Nat, p < P → a ≤ m → m ≤ dk → y < 4 → (g.1 72 (ixS p m y) = 1 ∧ φ p m y) ∨ (g.1 72 (ixS p m y) = 0 ∧ ¬ φ p m y)
set_option maxHeartbeats 8000000 in
theorem c_X9_goBack {d : Nat} (hd : 4 ≤ d) (h : zH) (st : Int) (to σ t s n P N dk : Nat) (hto : to < P) (hst : 0 ≤ st ∧ st ≤ 39) (e1 : st / 10 = σ) (e2 : st % 10 = t) (hV : VR h t n P N) (hB : RB h σ P N) (hs : s < 32) (hdk : h.1 52 26 = dk) (hdk4 : dk < 1440) :
    zC d k_X9_goBack [sR 52, sI to, sI st, sI s] h (fun o g => o = none ∧ fr frR h g ∧ bkR g P 0 dk (BkS (SR h σ N (hiR h t s n) (beR h)) to dk)) := by
  refine zC_of (by decide +kernel) (Nat.le_of_ble_eq_true rfl) (fun X C E => ?_)
  refine zrun_sound t_X9_goBack C E [9] 60 _ _ _ _ ?_
  refine zcall_i (d' := d - 1) (by omega) (c_X9_layOut (by omega) h st σ t s n P N hst e1 e2 hV hs) ?_
  rintro o g0 ⟨rfl, hf0, hL⟩
  have hR0 := RB_L hf0 hB hL
  have hfr0 : fr frR h g0 := fr_sub hf0 (fun c i q => by simp [frL, frR] at q ⊢; omega)
  generalize hhi : hiR h t s n = hi at hL hR0
  generalize hbe : beR h = be at hL hR0
  have hP12 := hB.2.1
  have hS0 := SR_L (σ := σ) (N := N) (hi := hi) (be := be) hfr0
  generalize hSS : SR h σ N hi be = S at hS0
  have hdk0 : g0.1 52 26 = dk := by rw [(hfr0 52 26 rfl).1, hdk]
  have mins : ∀ (q : Nat) (g : zH), q ≤ dk + 1 → fr fr72 g0 g → bkR g P q dk (BkS S to dk) → zJ X 44 [some (sR 52), some (sI to), none, none, some (sI ((q : Int) - 1))] [] g := by
    intro q
    induction q with
    | zero =>
      intro g hq hf hb
      refine zrun_sound t_X9_goBack C E [] 40 _ _ _ _ ?_
      refine And.intro (by omega) (And.intro (fun c => ?_) (fun c => absurd (show ((0 : Nat) : Int) - 1 < 0 by omega) c))
      exact And.intro rfl (And.intro (fr_trans hfr0 (fr_sub hf (fun c i q => by simp [fr72, frR] at q ⊢; omega))) (by rw [hhi, hbe, hSS]; exact hb))
    | succ m ih =>
      intro g hq hf hb
      have eqm : ((m + 1 : Nat) : Int) - 1 = (m : Int) := by omega
      rw [eqm]
      have states : ∀ (f2 p : Nat) (g : zH), p + f2 = P → fr fr72 g0 g → bkR g P (m + 1) dk (BkS S to dk) → bkR g p m m (BkS S to dk) → zJ X 52 [some (sR 52), some (sI to), none, none, some (sI m), some (sI p)] [] g := by
        intro f2
        induction f2 with
        | zero =>
          intro p g hp hf hb hb2
          have e20 : g.1 52 20 = P := (RP_c hf hR0).2.2.2.2.1
          refine zrun_sound t_X9_goBack C E [44] 40 _ _ _ _ ?_
          refine And.intro (by omega) (And.intro (by omega) (And.intro (fun c => ?_) (fun c => absurd c (by omega))))
          refine zJ_le (ih g (by omega) hf (fun p' m' y a b c d => ?_)) (And.intro rfl (And.intro rfl (And.intro rfl trivial))) rfl rfl
          by_cases e : m' = m
          · exact hb2 p' m' y (by omega) (by omega) (by omega) d
          · exact hb p' m' y a (by omega) c d
        | succ f2 ih2 =>
          intro p g hp hf hb hb2
          have e20 : g.1 52 20 = P := (RP_c hf hR0).2.2.2.2.1
          have wear : ∀ (f3 y : Nat) (g : zH), y + f3 = 4 → fr fr72 g0 g → bkR g P (m + 1) dk (BkS S to dk) → bkR g p m m (BkS S to dk) → (∀ y', y' < y → (g.1 72 (ixS p m y') = 1 ∧ BkS S to dk p m y') ∨ (g.1 72 (ixS p m y') = 0 ∧ ¬ BkS S to dk p m y')) → zJ X 64 [some (sR 52), some (sI to), none, none, some (sI m), some (sI p), some (sI y)] [] g := by
            intro f3
            induction f3 with
            | zero =>
              intro y g hy hf hb hb2 hb3
              refine zrun_sound t_X9_goBack C E [52] 40 _ _ _ _ ?_
              refine And.intro (by omega) (And.intro (by omega) (And.intro (fun c => ?_) (fun c => absurd c (by omega))))
              refine zJ_le (ih2 (p + 1) g (by omega) hf hb (fun p' m' y' a b c d => ?_)) (And.intro rfl (And.intro rfl (And.intro rfl (And.intro rfl trivial)))) rfl rfl
              by_cases e : p' = p
              · have e2 : m' = m := by omega
                subst e; subst e2
                exact hb3 y' (by omega)
              · exact hb2 p' m' y' (by omega) b c d
            | succ f3 ih3 =>
              intro y g hy hf hb hb2 hb3
              have hRg := RP_c hf hR0
              have hSg : SR g σ N hi be = S := (SR_c hf).1.trans hS0
              have hst := c_X9_stateOf (d := d - 1) g p m y (by omega) (by omega) (by omega)
              have hix := ixS_lt (p := p) (m := m) (y := y) (by omega) (by omega) (by omega)
              have hdkg : g.1 52 26 = dk := by rw [(hf 52 26 rfl).1, hdk0]
              have nx : ∀ v : Int, (v = 1 ∧ BkS S to dk p m y) ∨ (v = 0 ∧ ¬ BkS S to dk p m y) → zJ X 64 [some (sR 52), some (sI to), none, none, some (sI m), some (sI p), some (sI ((y : Int) + 1))] [] (setI g 72 (ixS p m y) v) := by
                intro v hv
                refine zJ_le (ih3 (y + 1) _ (by omega) (fr_setI hf rfl) (fun p' m' y' a b c d => ?_) (fun p' m' y' a b c d => ?_) (fun y' a => ?_)) (And.intro rfl (And.intro rfl (And.intro rfl (And.intro rfl (And.intro rfl trivial))))) rfl rfl
                · rw [setI_at, if_neg (fun z => by have := (ixS_inj (by omega) d (by omega) (by omega)).mp z.2; omega)]
                  exact hb p' m' y' a b c d
                · rw [setI_at, if_neg (fun z => by have := (ixS_inj (by omega) d (by omega) (by omega)).mp z.2; omega)]
                  exact hb2 p' m' y' a b c d
                · rw [setI_at]
                  by_cases e : y' = y
                  · subst e
                    rw [if_pos ⟨rfl, rfl⟩]
                    exact hv
                  · rw [if_neg (fun z => by have := (ixS_inj (by omega) (by omega) (by omega) (by omega)).mp z.2; omega)]
                    exact hb3 y' (by omega)
              refine zrun_sound t_X9_goBack C E [64] 80 _ _ _ _ ?_
              refine And.intro (by omega) (And.intro (by omega) (And.intro (fun c => absurd c (by omega)) (fun c => ?_)))
              refine zcall_i (d' := d - 1) (by omega) hst ?_
              rintro o g' ⟨rfl, rfl⟩
              refine And.intro (by omega) (And.intro (by omega) (And.intro (fun c => ?_) (fun c => ?_)))
              · refine And.intro (by omega) (And.intro (by omega) (And.intro (Or.inr rfl) ?_))
                rw [show ((ixS p m y : Nat) : Int).toNat = ixS p m y from rfl]
                have : p = to := by omega
                subst this
                exact nx 1 (Or.inl ⟨rfl, BkS_0 (by omega)⟩)
              · refine zcall_i (d' := d - 1) (by omega) (c_X9_comesFrom (by omega) g σ P N p m y dk hi be (BkS S to dk) hRg (by omega) (by omega) (by omega) hdkg hdk4 (fun p' m' y' a b c d => hb p' m' y' a (by omega) c d)) ?_
                rintro o g' ⟨rfl, hBo⟩
                rw [hSg] at hBo
                have inv := @BkS_inv S to dk p m y
                rcases hBo with ⟨rfl, q⟩ | ⟨rfl, q⟩
                · refine And.intro (by decide) (And.intro (fun c3 => absurd c3 (by decide)) (fun _ => ?_))
                  refine And.intro (by omega) (And.intro (by omega) (And.intro (Or.inr rfl) ?_))
                  rw [show ((ixS p m y : Nat) : Int).toNat = ixS p m y from rfl]
                  exact nx 1 (Or.inl ⟨rfl, inv.mpr (Or.inr q)⟩)
                · refine And.intro (by decide) (And.intro (fun _ => ?_) (fun c3 => absurd rfl c3))
                  refine And.intro (by omega) (And.intro (by omega) (And.intro (Or.inl rfl) ?_))
                  rw [show ((ixS p m y : Nat) : Int).toNat = ixS p m y from rfl]
                  refine nx 0 (Or.inr ⟨rfl, fun z => ?_⟩)
                  rcases inv.mp z with z | z
                  · exact c (by omega)
                  · exact q z
          refine zrun_sound t_X9_goBack C E [64] 40 _ _ _ _ ?_
          refine And.intro (by omega) (And.intro (by omega) (And.intro (fun c => absurd c (by omega)) (fun c => ?_)))
          exact zJ_le (wear 4 0 g (by omega) hf hb hb2 (fun y' a => absurd a (by omega))) (And.intro rfl (And.intro rfl (And.intro rfl (And.intro rfl (And.intro rfl trivial))))) rfl rfl
      refine zrun_sound t_X9_goBack C E [52] 40 _ _ _ _ ?_
      refine And.intro (by omega) (And.intro (fun c => absurd c (by omega)) (fun c => ?_))
      exact zJ_le (states P 0 g (by omega) hf hb (fun p' m' y' a => absurd a (by omega))) (And.intro rfl (And.intro rfl (And.intro rfl (And.intro rfl trivial)))) rfl rfl
  have clear : ∀ (f i : Nat) (g : zH), i + f = P * 5760 → fr fr72 g0 g → zJ X 9 [some (sR 52), some (sI to), none, none, some (sI i)] [] g := by
    intro f
    induction f with
    | zero =>
      intro i g hi hf
      have e20 : g.1 52 20 = P := (RP_c hf hR0).2.2.2.2.1
      have e26 : g.1 52 26 = dk := by rw [(hf 52 26 rfl).1, hdk0]
      refine zrun_sound t_X9_goBack C E [44] 80 _ _ _ _ ?_
      refine And.intro (by omega) (And.intro (by omega) (And.intro (fun c => ?_) (fun c => absurd c (by omega))))
      exact zJ_le (mins (dk + 1) g (Nat.le_refl _) hf (fun p' m' y' a b c => absurd b (by omega))) (And.intro rfl (And.intro rfl (And.intro (congrArg (fun z => (some (sI z) : Option zV).getD (sI 0)) (by omega)) trivial))) rfl rfl
    | succ f ih =>
      intro i g hi hf
      have e20 : g.1 52 20 = P := (RP_c hf hR0).2.2.2.2.1
      refine zrun_sound t_X9_goBack C E [9] 40 _ _ _ _ ?_
      refine And.intro (by omega) (And.intro (by omega) (And.intro (fun c => absurd c (by omega)) (fun c => ?_)))
      refine And.intro (by omega) (And.intro (by omega) (And.intro (Or.inl rfl) ?_))
      exact zJ_le (ih (i + 1) (setI g 72 i 0) (by omega) (fr_setI hf rfl)) (And.intro rfl (And.intro rfl (And.intro rfl trivial))) rfl rfl
  exact zJ_le (clear (P * 5760) 0 g0 (by omega) (fr_rfl _ _)) (And.intro rfl (And.intro rfl (And.intro rfl trivial))) rfl rfl
set_option maxHeartbeats 4000000 in
theorem c_X9_lastFrom {d : Nat} (hd : 5 ≤ d) (h : zH) (ft st : Int) (fr0 to σ t s n P N dn dk : Nat) (hft : 0 ≤ ft ∧ ft ≤ 2000000) (f1 : ft / 100 = fr0) (f2 : ft % 100 = to) (hf0 : fr0 < P) (hto : to < P) (hst : 0 ≤ st ∧ st ≤ 39) (e1 : st / 10 = σ) (e2 : st % 10 = t) (hV : VR h t n P N) (hB : RB h σ P N) (hs : s < 32) (hdn : h.1 52 25 = dn) (hdk : h.1 52 26 = dk) (hdd : dn ≤ dk) (hdk4 : dk < 1440) :
    zC d k_X9_lastFrom [sR 52, sI ft, sI st, sI s] h (fun o g => fr frR h g ∧ ∃ r : Int, o = some (sI r) ∧ lastR (SR h σ N (hiR h t s n) (beR h)) fr0 to dn dk r) := by
  refine zC_of (by decide +kernel) (Nat.le_of_ble_eq_true rfl) (fun X C E => ?_)
  have hgb := c_X9_goBack (d := d - 1) (by omega) h st to σ t s n P N dk hto hst e1 e2 hV hB hs hdk hdk4
  rw [← f2] at hgb
  have hP12 := hB.2.1
  refine zrun_sound t_X9_lastFrom C E [16] 60 _ _ _ _ ?_
  refine And.intro (by omega) (And.intro (by omega) ?_)
  refine zcall_i (d' := d - 1) (by omega) hgb ?_
  rintro o g ⟨rfl, hf, hb⟩
  have e25 : g.1 52 25 = dn := by rw [(hf 52 25 rfl).1, hdn]
  have e26 : g.1 52 26 = dk := by rw [(hf 52 26 rfl).1, hdk]
  generalize hSS : SR h σ N (hiR h t s n) (beR h) = S at hb
  have loop : ∀ q : Nat, q ≤ dk + 1 → (∀ m' : Nat, q ≤ m' → m' ≤ dk → ¬ BkS S to dk fr0 m' 0) → zJ X 16 [some (sR 52), some (sI ft), none, none, some (sI ((q : Int) - 1))] [] g := by
    intro q
    induction q with
    | zero =>
      intro hq hno
      refine zrun_sound t_X9_lastFrom C E [] 40 _ _ _ _ ?_
      refine And.intro (by omega) (And.intro (by omega) (And.intro (fun c => ?_) (fun c => absurd (show ((0 : Nat) : Int) - 1 < g.1 52 25 by omega) c)))
      exact And.intro hf ⟨_, rfl, Or.inl ⟨rfl, fun m' a b => by rw [hSS]; exact hno m' (by omega) b⟩⟩
    | succ m ih =>
      intro hq hno
      rw [show ((m + 1 : Nat) : Int) - 1 = (m : Int) by omega]
      refine zrun_sound t_X9_lastFrom C E [16] 60 _ _ _ _ ?_
      refine And.intro (by omega) (And.intro (by omega) (And.intro (fun c => ?_) (fun c => ?_)))
      · exact And.intro hf ⟨_, rfl, Or.inl ⟨rfl, fun m' a b => by rw [hSS]; exact hno m' (by omega) b⟩⟩
      · have hst := c_X9_stateOf (d := d - 1) g fr0 m 0 (by omega) (by omega) (by omega)
        rw [← f1] at hst
        have hix := ixS_lt (p := fr0) (m := m) (y := 0) (by omega) (by omega) (by omega)
        refine And.intro (by omega) (And.intro (by omega) ?_)
        refine zcall_i (d' := d - 1) (by omega) hst ?_
        rintro o g' ⟨rfl, rfl⟩
        refine And.intro (by omega) (And.intro (by omega) ?_)
        rw [show ((ixS fr0 m 0 : Nat) : Int).toNat = ixS fr0 m 0 from rfl]
        rcases hb fr0 m 0 hf0 (by omega) (by omega) (by omega) with ⟨v, hr⟩ | ⟨v, hr⟩
        · rw [v]
          refine And.intro (by decide) (And.intro (fun c4 => absurd c4 (by decide)) (fun _ => ?_))
          exact And.intro hf ⟨_, rfl, by rw [hSS]; exact Or.inr ⟨m, rfl, by omega, by omega, hr, fun m' a b => hno m' (by omega) b⟩⟩
        · rw [v]
          refine And.intro (by decide) (And.intro (fun _ => ?_) (fun c4 => absurd rfl c4))
          refine zJ_le (ih (by omega) (fun m' a b => ?_)) (And.intro rfl (And.intro rfl (And.intro rfl trivial))) rfl rfl
          by_cases e : m' = m
          · subst e; exact hr
          · exact hno m' (by omega) b
  exact zJ_le (loop (dk + 1) (Nat.le_refl _) (fun m' a b => absurd a (by omega))) (And.intro rfl (And.intro rfl (And.intro (congrArg (fun z => (some (sI z) : Option zV).getD (sI 0)) (by omega)) trivial))) rfl rfl
