theorem frS_e2 {h g : zH} (hf : fr (fun c _ => c == 35 || c == 38) h g) : ∀ c i, c ≠ 35 → c ≠ 36 → c ≠ 38 → g.1 c i = h.1 c i := frS_e (a := 35) hf (Or.inl rfl)
set_option maxHeartbeats 16000000 in
theorem c_X5_latest {d : Nat} (hd : 4 ≤ d) (h : zH) (σ P N fr0 to dn dk : Nat) (hS : SP h σ P N) (hdn : h.1 2 18 = dn) (hdk : h.1 2 19 = dk) (hdd : dn ≤ dk) (hdk4 : dk < 1440) (hf0 : fr0 < P) (hto : to < P) :
    zC d k_X5_latest [sR 4, sI fr0, sI to] h (fun o g => fr (fun c _ => c == 35 || c == 38) h g ∧ ∃ r : Int, o = some (sI r) ∧ lastR (SC h σ N) fr0 to dn dk r) := by
  have hok := SC_ok hS
  have hS2 := hS
  obtain ⟨hN, hN24, hP, hP12, hσ, hends, hlen, hhu, hrg, hrow, hsf, htk⟩ := hS
  refine zC_of (by decide +kernel) (Nat.le_of_ble_eq_true rfl) (fun X C E => ?_)
  generalize hSS : SC h σ N = S at hok
  have loop : ∀ (q : Nat) (g : zH), dn ≤ q → q ≤ dk + 1 → fr (fun c _ => c == 35 || c == 38) h g → (∀ w, w < N → ∃ A : Nat, g.1 38 w = A ∧ FAd (h.1 34) (h.1 29 w) q dk A) → (∀ p m' y : Nat, p < P → q ≤ m' → m' ≤ dk → y < 4 → (lb (g.2 35 m') (4 * p + y) = true ↔ BkS S to dk p m' y)) → (∀ m' : Nat, q ≤ m' → m' ≤ dk → ¬ BkS S to dk fr0 m' 0) →
      zJ X 24 [some (sR 4), some (sI fr0), some (sI to), some (sI ((q : Int) - 1))] [] g := by
    intro q
    induction q with
    | zero =>
      intro g hq1 hq2 hf hab hb hno
      have e18 : g.1 2 18 = dn := by rw [(hf 2 18 rfl).1, hdn]
      refine zrun_sound t_X5_latest C E [] 40 _ _ _ _ ?_
      refine And.intro (by omega) (And.intro (by omega) (And.intro (fun c => ?_) (fun c => absurd (show ((0 : Nat) : Int) - 1 < g.1 2 18 by omega) c)))
      exact And.intro hf ⟨_, rfl, Or.inl ⟨rfl, fun m' a b => by rw [hSS]; exact hno m' (by omega) b⟩⟩
    | succ m ih =>
      intro g hq1 hq2 hf hab hb hno
      have e18 : g.1 2 18 = dn := by rw [(hf 2 18 rfl).1, hdn]
      have e19 : g.1 2 19 = dk := by rw [(hf 2 19 rfl).1, hdk]
      by_cases hend : m < dn
      · refine zrun_sound t_X5_latest C E [] 40 _ _ _ _ ?_
        refine And.intro (by omega) (And.intro (by omega) (And.intro (fun c => ?_) (fun c => absurd (show ((m + 1 : Nat) : Int) - 1 < g.1 2 18 by omega) c)))
        exact And.intro hf ⟨_, rfl, Or.inl ⟨rfl, fun m' a b => by rw [hSS]; exact hno m' (by omega) b⟩⟩
      · have eqm : ((m + 1 : Nat) : Int) - 1 = (m : Int) := by omega
        have em : ((m : Int)).toNat = m := rfl
        have em1 : ((m : Int) + 1).toNat = m + 1 := by omega
        rw [eqm]
        have ge := frS_e2 hf
        have hSg := SP_c ge hS2
        have g5 := wt_c ge (hf 4 6 rfl).2
        -- behind the ways
        have done : ∀ (g' : zH) (acc : Int64), fr (fun c _ => c == 35 || c == 38) h g' → (∀ w, w < N → ∃ A : Nat, g'.1 38 w = A ∧ FAd (h.1 34) (h.1 29 w) m dk A) → (∀ m', g'.2 35 m' = g.2 35 m') → (∀ p y : Nat, p < P → y < 4 → (lb acc (4 * p + y) = true ↔ BkS S to dk p m y)) → zJ X 107 [some (sR 4), some (sI fr0), some (sI to), some (sI m), some (sL acc)] [] g' := by
          intro g' acc a1 a2 a3 a4
          have fin : ¬ BkS S to dk fr0 m 0 → zJ X 130 [some (sR 4), some (sI fr0), some (sI to), some (sI m)] [] (setL g' 35 m acc) := by
            intro hnb
            refine zrun_sound t_X5_latest C E [24] 20 _ _ _ _ ?_
            refine zJ_le (ih (setL g' 35 m acc) (by omega) (by omega) (fr_setL a1 rfl) a2 (fun p m' y b1 b2 b3 b4 => ?_) (fun m' b1 b2 => ?_)) (And.intro rfl (And.intro rfl (And.intro rfl (And.intro rfl trivial)))) rfl rfl
            · rw [setL_at]
              by_cases e : m' = m
              · subst e
                rw [if_pos ⟨rfl, rfl⟩]
                exact a4 p y b1 b4
              · rw [if_neg (fun z => e z.2), a3]
                exact hb p m' y b1 (by omega) b3 b4
            · by_cases e : m' = m
              · subst e; exact hnb
              · exact hno m' (by omega) b2
          have hbit : ∀ j, j < 64 → lb (acc &&& shl64 1 (4 * (fr0 : Int))) j = (decide (j = 4 * fr0) && lb acc (4 * fr0)) := by
            intro j hj
            rw [lb_and, show (1 : Int64) = i2l 1 from rfl, lb_one (Or.inr rfl) (by omega) (by omega) _ hj, show (4 * (fr0 : Int)).toNat = 4 * fr0 by omega]
            by_cases e : j = 4 * fr0
            · subst e; simp
            · simp [e]
          have hz : acc &&& shl64 1 (4 * (fr0 : Int)) = 0 ↔ ¬ BkS S to dk fr0 m 0 := by
            rw [← a4 fr0 0 hf0 (by omega), Nat.add_zero]
            constructor
            · intro e1 e2
              have := hbit (4 * fr0) (by omega)
              rw [e1, lb_0, e2] at this
              simp at this
            · intro e1
              refine lb_ext (fun j hj => ?_)
              rw [hbit j hj, lb_0]
              have : lb acc (4 * fr0) = false := by
                cases e2 : lb acc (4 * fr0) with
                | false => rfl
                | true => exact absurd e2 e1
              rw [this, Bool.and_false]
          refine zrun_sound t_X5_latest C E [130] 60 _ _ _ _ ?_
          refine And.intro (by omega) (And.intro (by omega) ?_)
          have good : ¬ (acc &&& shl64 1 (4 * (fr0 : Int)) = 0) → (fr (fun c _ => c == 35 || c == 38) h (setL g' 35 m acc) ∧ ∃ r : Int, some (sI (m : Int)) = some (sI r) ∧ lastR (SC h σ N) fr0 to dn dk r) := by
            intro e
            refine And.intro (fr_setL a1 rfl) ⟨_, rfl, Or.inr ⟨m, rfl, by omega, by omega, ?_, fun m' b1 b2 => ?_⟩⟩
            · rw [hSS]
              exact Classical.byContradiction (fun z => e (hz.mpr z))
            · rw [hSS]
              exact hno m' (by omega) b2
          refine And.intro (fun c => ?_) (And.intro (fun c => ?_) (fun c => ?_))
          · refine And.intro (by decide) (And.intro (fun z => absurd z (by decide)) (fun _ => ?_))
            exact good (fun z => by rw [z] at c; exact absurd c (by decide))
          · refine And.intro (by decide) (And.intro (fun _ => ?_) (fun z => absurd rfl z))
            exact zJ_le (fin (hz.mp c)) (And.intro rfl (And.intro rfl (And.intro rfl (And.intro rfl trivial)))) rfl rfl
          · refine And.intro (by decide) (And.intro (fun z => absurd z (by decide)) (fun _ => ?_))
            exact good (fun z => by rw [z] at c; exact absurd c (by decide))
        have ways : ∀ (f w : Nat) (g' : zH) (acc : Int64), w + f = N → fr (fun c _ => c == 35 || c == 38) h g' → (∀ w', w' < N → ∃ A : Nat, g'.1 38 w' = A ∧ FAd (h.1 34) (h.1 29 w') (if w' < w then m else m + 1) dk A) → (∀ m', g'.2 35 m' = g.2 35 m') → (∀ p y : Nat, p < P → y < 4 → (lb acc (4 * p + y) = true ↔ p = to ∨ (∃ p' m' y', wtS (wtC h) p m y p' m' y' ∧ m' ≤ dk ∧ BkS S to dk p' m' y') ∨ ∃ w', w' < w ∧ ∃ p' m' y', wyS (h.1 26) (h.1 27) (tkC h σ) (goC h σ) w' p m y p' m' y' ∧ m' ≤ dk ∧ BkS S to dk p' m' y')) →
            zJ X 77 [some (sR 4), some (sI fr0), some (sI to), some (sI m), some (sL acc), none, some (sI w)] [] g' := by
          intro f
          induction f with
          | zero =>
            intro w g' acc hw a1 a2 a3 a4
            have ew : w = N := by omega
            subst ew
            have e10 : g'.1 2 10 = w := by rw [(a1 2 10 rfl).1, hN]
            refine zrun_sound t_X5_latest C E [107] 40 _ _ _ _ ?_
            refine And.intro (by omega) (And.intro (by omega) (And.intro (fun c => ?_) (fun c => absurd c (by omega))))
            refine zJ_le (done g' acc a1 (fun w' hw' => ?_) a3 (fun p y b1 b2 => ?_)) (And.intro rfl (And.intro rfl (And.intro rfl (And.intro rfl (And.intro rfl trivial))))) rfl rfl
            · have := a2 w' hw'
              rw [if_pos hw'] at this
              exact this
            · rw [a4 p y b1 b2, BkS_inv]
              constructor
              · rintro (c1 | ⟨p', m', y', c1, c2, c3⟩ | ⟨w', c0, p', m', y', c1, c2, c3⟩)
                · exact Or.inl ⟨c1, by omega⟩
                · exact Or.inr ⟨p', m', y', by rw [← hSS]; exact Or.inl c1, c2, c3⟩
                · exact Or.inr ⟨p', m', y', by rw [← hSS]; exact Or.inr ⟨w', c0, c1⟩, c2, c3⟩
              · rintro (⟨c1, -⟩ | ⟨p', m', y', c1, c2, c3⟩)
                · exact Or.inl c1
                · rw [← hSS] at c1
                  rcases c1 with c1 | ⟨w', c0, c1⟩
                  · exact Or.inr (Or.inl ⟨p', m', y', c1, c2, c3⟩)
                  · exact Or.inr (Or.inr ⟨w', c0, p', m', y', c1, c2, c3⟩)
          | succ f ih2 =>
            intro w g' acc hw a1 a2 a3 a4
            have e10 : g'.1 2 10 = N := by rw [(a1 2 10 rfl).1, hN]
            have ge' := frS_e2 a1
            have hSg' := SP_c ge' hS2
            obtain ⟨x1, x2, x3, x4⟩ := go_c (σ := σ) (w := 0) (m := 0) (y := 0) ge'
            have x34 : g'.1 34 = h.1 34 := funext fun i => (a1 34 i rfl).1
            have x29 : ∀ w, g'.1 29 w = h.1 29 w := fun w => (a1 29 w rfl).1
            obtain ⟨A, hA, hfa⟩ := a2 w (by omega)
            rw [if_neg (by omega)] at hfa
            refine zrun_sound t_X5_latest C E [77] 60 _ _ _ _ ?_
            refine And.intro (by omega) (And.intro (by omega) (And.intro (fun c => absurd c (by omega)) (fun c => ?_)))
            refine zcall_i (d' := d - 1) (by omega) (c_X5_goodToLeave (by omega) g' σ P N m w dk A hSg' (by omega) hdk4 (by omega) hA (by rw [x34, x29]; exact hfa)) ?_
            rintro o g2 ⟨f2, ⟨A', hA', hfa'⟩, r, rfl, hr⟩
            rw [x34, x29] at hfa'
            rw [x1, x2, x3, x4] at hr
            refine zJ_le (ih2 (w + 1) g2 (acc ||| r) (by omega) (fr_trans a1 (fr_sub f2 (fun c i z => by simp at z ⊢; omega))) (fun w' hw' => ?_) (fun m' => by rw [(f2 35 m' rfl).2, a3]) (fun p y b1 b2 => ?_)) (And.intro rfl (And.intro rfl (And.intro rfl (And.intro rfl (And.intro rfl (And.intro rfl trivial)))))) rfl rfl
            · by_cases ew : w' = w
              · subst ew
                rw [if_pos (by omega)]
                exact ⟨A', hA', hfa'⟩
              · obtain ⟨A2, hA2, hfa2⟩ := a2 w' hw'
                refine ⟨A2, by rw [(f2 38 w' (by simp; exact ew)).1]; exact hA2, ?_⟩
                by_cases e : w' < w
                · rw [if_pos e] at hfa2
                  rw [if_pos (by omega)]
                  exact hfa2
                · rw [if_neg e] at hfa2
                  rw [if_neg (by omega)]
                  exact hfa2
            · rw [lb_or, Bool.or_eq_true, a4 p y b1 b2, hr p y (by omega) b2]
              have st : (∃ p' m' y', wyS (h.1 26) (h.1 27) (tkC h σ) (goC h σ) w p m y p' m' y' ∧ m' ≤ dk ∧ lb (g'.2 35 m') (4 * p' + y') = true) ↔ (∃ p' m' y', wyS (h.1 26) (h.1 27) (tkC h σ) (goC h σ) w p m y p' m' y' ∧ m' ≤ dk ∧ BkS S to dk p' m' y') := by
                have key : ∀ p' m' y', wyS (h.1 26) (h.1 27) (tkC h σ) (goC h σ) w p m y p' m' y' → m' ≤ dk → (lb (g'.2 35 m') (4 * p' + y') = true ↔ BkS S to dk p' m' y') := by
                  intro p' m' y' c1 c2
                  have hs : S p m y p' m' y' := by rw [← hSS]; exact Or.inr ⟨w, by omega, c1⟩
                  have hi := hok p m y p' m' y' b1 b2 hs
                  rw [a3]
                  exact hb p' m' y' hi.2.2.1 (by omega) c2 hi.2.2.2
                constructor
                · rintro ⟨p', m', y', c1, c2, c3⟩
                  exact ⟨p', m', y', c1, c2, (key p' m' y' c1 c2).mp c3⟩
                · rintro ⟨p', m', y', c1, c2, c3⟩
                  exact ⟨p', m', y', c1, c2, (key p' m' y' c1 c2).mpr c3⟩
              rw [st]
              constructor
              · rintro ((c1 | c1 | ⟨w', c0, c1⟩) | c1)
                · exact Or.inl c1
                · exact Or.inr (Or.inl c1)
                · exact Or.inr (Or.inr ⟨w', by omega, c1⟩)
                · exact Or.inr (Or.inr ⟨w, by omega, c1⟩)
              · rintro (c1 | c1 | ⟨w', c0, c1⟩)
                · exact Or.inl (Or.inl c1)
                · exact Or.inl (Or.inr (Or.inl c1))
                · by_cases ew : w' = w
                  · subst ew; exact Or.inr c1
                  · exact Or.inl (Or.inr (Or.inr ⟨w', by omega, c1⟩))
        have enter : ∀ acc : Int64, (∀ p y : Nat, p < P → y < 4 → (lb acc (4 * p + y) = true ↔ p = to ∨ (∃ p' m' y', wtS (wtC h) p m y p' m' y' ∧ m' ≤ dk ∧ BkS S to dk p' m' y'))) → zJ X 74 [some (sR 4), some (sI fr0), some (sI to), some (sI m), some (sL acc), none] [] g := by
          intro acc hacc
          refine zrun_sound t_X5_latest C E [77] 20 _ _ _ _ ?_
          refine zJ_le (ways N 0 g acc (by omega) hf (fun w' hw' => ?_) (fun _ => rfl) (fun p y b1 b2 => ?_)) (And.intro rfl (And.intro rfl (And.intro rfl (And.intro rfl (And.intro rfl (And.intro rfl trivial)))))) rfl rfl
          · rw [if_neg (by omega)]
            exact hab w' hw'
          · rw [hacc p y b1 b2]
            constructor
            · rintro (c1 | c1)
              · exact Or.inl c1
              · exact Or.inr (Or.inl c1)
            · rintro (c1 | c1 | ⟨w', c0, -⟩)
              · exact Or.inl c1
              · exact Or.inr c1
              · omega
        refine zrun_sound t_X5_latest C E [74] 60 _ _ _ _ ?_
        refine And.intro (by omega) (And.intro (by omega) (And.intro (fun c => absurd c (by omega)) (fun c => ?_)))
        refine And.intro (by omega) (And.intro (by omega) (And.intro (fun c2 => ?_) (fun c2 => ?_)))
        · refine zJ_le (enter (shl64 15 (4 * (to : Int))) (fun p y b1 b2 => ?_)) (And.intro rfl (And.intro rfl (And.intro rfl (And.intro rfl (And.intro rfl trivial))))) rfl rfl
          rw [goal_m (by omega) (by omega) b2]
          constructor
          · exact Or.inl
          · rintro (c3 | ⟨p', m', y', ⟨c3, c4, c5, c6⟩, c7, -⟩)
            · exact c3
            · omega
        · refine And.intro (by omega) (And.intro (by omega) ?_)
          rw [em1]
          refine zcall_i (d' := d - 1) (by omega) (c_X5_waiting (by omega) g σ P N m hSg (by omega)) ?_
          rintro o g' ⟨rfl, r, rfl, hr⟩
          rw [g5] at hr
          refine zJ_le (enter (shl64 15 (4 * (to : Int)) ||| (g.2 35 (m + 1) &&& r)) (fun p y b1 b2 => ?_)) (And.intro rfl (And.intro rfl (And.intro rfl (And.intro rfl (And.intro rfl trivial))))) rfl rfl
          rw [lb_or, lb_and, Bool.or_eq_true, Bool.and_eq_true, goal_m (by omega) (by omega) b2, hr p y (by omega) b2, hb p (m + 1) y b1 (Nat.le_refl _) (by omega) b2]
          constructor
          · rintro (c3 | ⟨c3, c4, c5⟩)
            · exact Or.inl c3
            · exact Or.inr ⟨p, m + 1, y, ⟨rfl, rfl, rfl, c5⟩, by omega, c3⟩
          · rintro (c3 | ⟨p', m', y', ⟨c3, c4, c5, c6⟩, c7, c8⟩)
            · exact Or.inl c3
            · subst c3; subst c4; subst c5
              exact Or.inr ⟨c8, b1, c6⟩
  refine zrun_sound t_X5_latest C E [24] 60 _ _ _ _ ?_
  refine zcall_i (d' := d - 1) (by omega) (c_fillI_38 h (h.1 2 19 + 1)) ?_
  rintro o g1 ⟨rfl, f1, v1⟩
  have e19 : g1.1 2 19 = dk := by rw [(f1 2 19 rfl).1, hdk]
  refine zJ_le (loop (dk + 1) g1 (by omega) (Nat.le_refl _) (fr_sub f1 (fun c i z => by simp at z ⊢; omega)) (fun w hw => ⟨dk + 1, by rw [v1 w (by omega), hdk]; rfl, Nat.le_refl _, Nat.le_refl _, fun j a b => absurd a (by omega), fun a => absurd a (by omega)⟩) (fun p m' y a b c _ => absurd b (by omega)) (fun m' a b => absurd a (by omega))) (And.intro rfl (And.intro rfl (And.intro rfl (And.intro ?_ trivial)))) rfl rfl
  rw [e19]
  exact congrArg sI (by omega)
