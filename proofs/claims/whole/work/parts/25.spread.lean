theorem AbOK_s {h : zH} {w m : Nat} (ha : AbOK h w m) : AbOK h w (m + 1) := by
  obtain ⟨h1, h2⟩ := ha
  refine ⟨h1, ?_⟩
  rcases h2 with h2 | ⟨r, hr, f1, f2, f3, f4⟩
  · exact Or.inl (by omega)
  · by_cases e : r = m
    · exact Or.inl (by omega)
    · exact Or.inr ⟨r, hr, by omega, f2, fun j a b => f3 j (by omega) b, f4⟩
theorem AbOK_c {h g : zH} {w m : Nat} (h1 : g.1 38 w = h.1 38 w) (h2 : g.1 34 = h.1 34) (h3 : g.1 29 w = h.1 29 w) (ha : AbOK h w m) : AbOK g w m := by
  unfold AbOK at ha ⊢
  rw [h1, h2, h3]
  exact ha
theorem SP_c {h g : zH} {σ P N : Nat} (h1 : ∀ c i, c ≠ 35 → c ≠ 36 → c ≠ 38 → g.1 c i = h.1 c i) (hS : SP h σ P N) : SP g σ P N := by
  obtain ⟨hN, hN24, hP, hP12, hσ, hends, hlen, hhu, hrg, hrow, hsf, htk⟩ := hS
  have e := fun c i (a : c ≠ 35 ∧ c ≠ 36 ∧ c ≠ 38) => h1 c i a.1 a.2.1 a.2.2
  refine ⟨by rw [e 2 10 (by omega)]; exact hN, hN24, by rw [e 2 8 (by omega)]; exact hP, hP12, hσ, fun w hw => ?_, fun w hw => ?_, ?_, fun w hw => ?_, fun m hm => ?_, fun p hp => ?_, fun w y hw hy => ?_⟩
  · rw [e 26 w (by omega), e 27 w (by omega)]; exact hends w hw
  · rw [e 28 w (by omega)]; exact hlen w hw
  · rw [e 32 σ (by omega)]; exact hhu
  · rw [e 29 w (by omega), e 30 w (by omega), e 31 w (by omega)]; exact hrg w hw
  · rw [e 34 m (by omega)]; exact hrow m hm
  · rw [e 25 p (by omega)]; exact hsf p hp
  · rw [e 37 _ (by omega), e 28 w (by omega), e 32 σ (by omega)]; exact htk w y hw hy
theorem frS_e {a : Nat} {h g : zH} (hf : fr (fun c _ => c == a || c == 38) h g) (ha : a = 35 ∨ a = 36) : ∀ c i, c ≠ 35 → c ≠ 36 → c ≠ 38 → g.1 c i = h.1 c i := fun c i h1 h2 h3 => (hf c i (by rcases ha with rfl | rfl <;> simp <;> omega)).1
/-- what of the heap a step depends on -/
theorem go_c {h g : zH} {σ w m y : Nat} (h1 : ∀ c i, c ≠ 35 → c ≠ 36 → c ≠ 38 → g.1 c i = h.1 c i) : tkC g σ = tkC h σ ∧ goC g σ = goC h σ ∧ g.1 26 = h.1 26 ∧ g.1 27 = h.1 27 := by
  have e := fun c (a : c ≠ 35 ∧ c ≠ 36 ∧ c ≠ 38) => (funext fun i => h1 c i a.1 a.2.1 a.2.2 : g.1 c = h.1 c)
  have t : tkC g σ = tkC h σ := by
    unfold tkC
    rw [e 28 (by omega), e 32 (by omega)]
  refine ⟨t, ?_, e 26 (by omega), e 27 (by omega)⟩
  unfold goC
  rw [t, e 30 (by omega), e 31 (by omega), e 34 (by omega), e 29 (by omega)]
theorem wt_c {h g : zH} (h1 : ∀ c i, c ≠ 35 → c ≠ 36 → c ≠ 38 → g.1 c i = h.1 c i) (h2 : g.2 4 6 = h.2 4 6) : wtC g = wtC h := by
  have e := fun c (a : c ≠ 35 ∧ c ≠ 36 ∧ c ≠ 38) => (funext fun i => h1 c i a.1 a.2.1 a.2.2 : g.1 c = h.1 c)
  unfold wtC
  rw [e 34 (by omega), e 25 (by omega), h2]
set_option maxHeartbeats 16000000 in
theorem c_X5_spread_35 {d : Nat} (hd : 4 ≤ d) (h : zH) (σ P N : Nat) (fm : Int) (p0 m0 e : Nat) (goals : Int64) (hS : SP h σ P N) (hfm : 0 ≤ fm ∧ fm ≤ 2000000) (e1 : fm / 10000 = p0) (e2 : fm % 10000 = m0) (hp0 : p0 < P) (hm0 : m0 < 1440) (he : e < 1440) (hg : ∀ j, j < 64 → lb goals j = true → j < 48) :
    zC d k_X5_spread [sR 4, sR 35, sI fm, sL goals, sI e] h (fun o g => fr (fun c _ => c == 35 || c == 38) h g ∧
      ((o = some (sI (-2)) ∧ (∀ p m y : Nat, m ≤ e → RdS (SC h σ N) p0 m0 p m y → lb goals (4 * p + y) = false) ∧ ∀ p m y : Nat, p < 12 → m ≤ e → y < 4 → (lb (g.2 35 m) (4 * p + y) = true ↔ RdS (SC h σ N) p0 m0 p m y)) ∨
       (∃ m : Nat, o = some (sI m) ∧ m ≤ e ∧ (∃ p y : Nat, RdS (SC h σ N) p0 m0 p m y ∧ lb goals (4 * p + y) = true) ∧ ∀ p m' y : Nat, m' < m → RdS (SC h σ N) p0 m0 p m' y → lb goals (4 * p + y) = false))) := by
  have hok := SC_ok hS
  have hin := fun p m y (hr : RdS (SC h σ N) p0 m0 p m y) => RdS_in hok hp0 hm0 hr
  have hS2 := hS
  obtain ⟨hN, hN24, hP, hP12, hσ, hends, hlen, hhu, hrg, hrow, hsf, htk⟩ := hS
  refine zC_of (by decide +kernel) (Nat.le_of_ble_eq_true rfl) (fun X C E => ?_)
  -- the loop over the minutes
  have loop : ∀ (f m : Nat) (g : zH), m + f = max (e + 1) m → m0 ≤ m ∧ m ≤ 1440 → fr (fun c _ => c == 35 || c == 38) h g → (∀ w, w < N → AbOK g w m) → (∀ p m' y : Nat, p < 12 → m' < 1440 → y < 4 → (lb (g.2 35 m') (4 * p + y) = true ↔ RdU (SC h σ N) p0 m0 m p m' y)) → (∀ p m' y : Nat, m' < m → RdS (SC h σ N) p0 m0 p m' y → lb goals (4 * p + y) = false) →
      zJ X 36 [some (sR 4), some (sR 35), none, some (sL goals), none, some (sI e), some (sI m)] [] g := by
    intro f
    induction f with
    | zero =>
      intro m g hm hmm hf hab hb hng
      refine zrun_sound t_X5_spread C E [] 60 _ _ _ _ ?_
      refine And.intro (by omega) (And.intro (by omega) (And.intro (fun c => ?_) (fun c => absurd (show (e : Int) < m by omega) c)))
      refine And.intro hf (Or.inl ⟨rfl, fun p m' y a b => hng p m' y (by omega) b, fun p m' y a1 a2 a3 => ?_⟩)
      rw [hb p m' y a1 (by omega) a3]
      exact RdU_iff hok hp0 hm0 (by omega)
    | succ f ih =>
      intro m g hm hmm hf hab hb hng
      have em : ((m : Int)).toNat = m := rfl
      have em1 : ((m : Int) + 1).toNat = m + 1 := by omega
      have ge := frS_e hf (by decide)
      have hSg := SP_c ge hS2
      obtain ⟨g1, g2, g3, g4⟩ := go_c (σ := σ) (w := 0) (m := 0) (y := 0) ge
      have g5 := wt_c ge (hf 4 6 rfl).2
      have here : ∀ p y : Nat, p < 12 → y < 4 → (lb (g.2 35 m) (4 * p + y) = true ↔ RdS (SC h σ N) p0 m0 p m y) := fun p y a b => by
        rw [hb p m y a (by omega) b]
        exact RdU_iff hok hp0 hm0 (by omega)
      -- on to the next minute
      have next : ∀ g' : zH, fr (fun c _ => c == 35 || c == 38) h g' → (∀ w, w < N → AbOK g' w m) → (∀ p m' y : Nat, p < 12 → m' < 1440 → y < 4 → (lb (g'.2 35 m') (4 * p + y) = true ↔ RdU (SC h σ N) p0 m0 (m + 1) p m' y)) → (∀ p y : Nat, RdS (SC h σ N) p0 m0 p m y → lb goals (4 * p + y) = false) → zJ X 124 [some (sR 4), some (sR 35), none, some (sL goals), none, some (sI e), some (sI m)] [] g' := by
        intro g' a1 a2 a3 a4
        refine zrun_sound t_X5_spread C E [36] 20 _ _ _ _ ?_
        refine zJ_le (ih (m + 1) g' (by omega) (by omega) a1 (fun w hw => AbOK_s (a2 w hw)) a3 (fun p m' y b1 b2 => ?_)) (And.intro rfl (And.intro rfl (And.intro rfl (And.intro rfl (And.intro rfl trivial))))) rfl rfl
        by_cases em : m' = m
        · subst em; exact a4 p y b2
        · exact hng p m' y (by omega) b2
      refine zrun_sound t_X5_spread C E [61] 140 _ _ _ _ ?_
      refine And.intro (by omega) (And.intro (by omega) (And.intro (fun c => absurd c (by omega)) (fun c => ?_)))
      refine And.intro (by omega) (And.intro (by omega) ?_)
      rw [em]
      have isgoal : ¬ (g.2 35 m &&& goals) = 0 → ∃ p y : Nat, RdS (SC h σ N) p0 m0 p m y ∧ lb goals (4 * p + y) = true := by
        intro hne
        obtain ⟨j, hj, hl⟩ := lb_ne0.mp hne
        rw [lb_and, Bool.and_eq_true] at hl
        have hj48 := hg j hj hl.2
        have ej : 4 * (j / 4) + j % 4 = j := by omega
        refine ⟨j / 4, j % 4, (here (j / 4) (j % 4) (by omega) (by omega)).mp (by rw [ej]; exact hl.1), by rw [ej]; exact hl.2⟩
      have notgoal : (g.2 35 m &&& goals) = 0 → ∀ p y : Nat, RdS (SC h σ N) p0 m0 p m y → lb goals (4 * p + y) = false := by
        intro hz p y hr
        have hi := hin p m y hr
        have hl := (here p y (by omega) hi.2.2.2).mpr hr
        have : lb (g.2 35 m &&& goals) (4 * p + y) = false := by rw [hz, lb_0]
        rw [lb_and, hl, Bool.true_and] at this
        exact this
      have fin : (¬ (g.2 35 m &&& goals) = 0) → (fr (fun c _ => c == 35 || c == 38) h g ∧
      ((some (sI m) = some (sI (-2)) ∧ (∀ p m y : Nat, m ≤ e → RdS (SC h σ N) p0 m0 p m y → lb goals (4 * p + y) = false) ∧ ∀ p m y : Nat, p < 12 → m ≤ e → y < 4 → (lb (g.2 35 m) (4 * p + y) = true ↔ RdS (SC h σ N) p0 m0 p m y)) ∨
       (∃ m_1 : Nat, some (sI m) = some (sI m_1) ∧ m_1 ≤ e ∧ (∃ p y : Nat, RdS (SC h σ N) p0 m0 p m_1 y ∧ lb goals (4 * p + y) = true) ∧ ∀ p m' y : Nat, m' < m_1 → RdS (SC h σ N) p0 m0 p m' y → lb goals (4 * p + y) = false))) :=
        fun hne => And.intro hf (Or.inr ⟨m, rfl, by omega, isgoal hne, hng⟩)
      have cont : (g.2 35 m &&& goals) = 0 → zJ X 61 [some (sR 4), some (sR 35), none, some (sL goals), none, some (sI e), some (sI m), some (sL (g.2 35 m)), none] [] g := by
        intro hz
        have ng := notgoal hz
        have skip : (∀ p z p' m' y' : Nat, RdS (SC h σ N) p0 m0 p m z → ¬ SC h σ N p m z p' m' y') → zJ X 124 [some (sR 4), some (sR 35), none, some (sL goals), none, some (sI e), some (sI m)] [] g := by
          intro hs
          refine next g hf hab (fun p m' y a1 a2 a3 => ?_) ng
          rw [hb p m' y a1 a2 a3, RdU_s]
          constructor
          · exact Or.inl
          · rintro (q | ⟨p2, z, q1, q2⟩)
            · exact q
            · exact absurd q2 (hs p2 z p m' y q1)
        have dead : g.2 35 m = 0 → ∀ p z p' m' y' : Nat, RdS (SC h σ N) p0 m0 p m z → ¬ SC h σ N p m z p' m' y' := by
          intro hz0 p z p' m' y' hr
          have hi := hin p m z hr
          have := (here p z (by omega) hi.2.2.2).mpr hr
          rw [hz0, lb_0] at this
          cases this
        have late : ¬ m < 1439 → ∀ p z p' m' y' : Nat, RdS (SC h σ N) p0 m0 p m z → ¬ SC h σ N p m z p' m' y' := by
          intro hl p z p' m' y' hr hs
          have hi := hin p m z hr
          have := hok p m z p' m' y' hi.1 hi.2.2.2 hs
          omega
        have go61 : ¬ g.2 35 m = 0 → m < 1439 → zJ X 76 [some (sR 4), some (sR 35), none, some (sL goals), none, some (sI e), some (sI m), some (sL (g.2 35 m)), none] [] g := by
          intro hz0 hl
          -- the ways
          have ways : ∀ (f w : Nat) (g' : zH), w + f = N → fr (fun c _ => c == 35 || c == 38) h g' → (∀ w, w < N → AbOK g' w m) → (∀ p m' y : Nat, p < 12 → m' < 1440 → y < 4 → (lb (g'.2 35 m') (4 * p + y) = true ↔ RdU (SC h σ N) p0 m0 m p m' y ∨ ∃ q z, RdS (SC h σ N) p0 m0 q m z ∧ (wtS (wtC h) q m z p m' y ∨ ∃ w', w' < w ∧ wyS (h.1 26) (h.1 27) (tkC h σ) (goC h σ) w' q m z p m' y))) →
              zJ X 97 [some (sR 4), some (sR 35), none, some (sL goals), none, some (sI e), some (sI m), some (sL (g.2 35 m)), none, some (sI w)] [] g' := by
            intro f2
            induction f2 with
            | zero =>
              intro w g' hw hf' hab' hb'
              have e210 : g'.1 2 10 = N := by rw [(hf' 2 10 rfl).1, hN]
              refine zrun_sound t_X5_spread C E [124] 40 _ _ _ _ ?_
              refine And.intro (by omega) (And.intro (by omega) (And.intro (fun c => ?_) (fun c => absurd c (by omega))))
              refine zJ_le (next g' hf' hab' (fun p m' y a1 a2 a3 => ?_) ng) (And.intro rfl (And.intro rfl (And.intro rfl (And.intro rfl (And.intro rfl trivial))))) rfl rfl
              have ew : w = N := by omega
              rw [hb' p m' y a1 a2 a3, RdU_s, ew]
              rfl
            | succ f2 ih2 =>
              intro w g' hw hf' hab' hb'
              have e210 : g'.1 2 10 = N := by rw [(hf' 2 10 rfl).1, hN]
              have ge' := frS_e hf' (by decide)
              have hSg' := SP_c ge' hS2
              obtain ⟨x1, x2, x3, x4⟩ := go_c (σ := σ) (w := 0) (m := 0) (y := 0) ge'
              refine zrun_sound t_X5_spread C E [97] 60 _ _ _ _ ?_
              refine And.intro (by omega) (And.intro (by omega) (And.intro (fun c => absurd c (by omega)) (fun c => ?_)))
              refine zcall_i (d' := d - 1) (by omega) (c_X5_leave_35 (by omega) g' σ P N m w hSg' (by omega) (by omega) (hab' w (by omega))) ?_
              rintro o g2 ⟨rfl, hf2, hab2, hb2⟩
              rw [x1, x2, x3, x4] at hb2
              have here' : ∀ p y : Nat, p < 12 → y < 4 → (lb (g'.2 35 m) (4 * p + y) = true ↔ RdS (SC h σ N) p0 m0 p m y) := fun p y a b => by
                rw [hb' p m y a (by omega) b, RdU_iff hok hp0 hm0 (Nat.le_refl m)]
                constructor
                · rintro (q | ⟨q, z, q1, q2⟩)
                  · exact q
                  · have hi := hin q m z q1
                    have hs : SC h σ N q m z p m y := by
                      rcases q2 with q2 | ⟨w', q3, q4⟩
                      · exact Or.inl q2
                      · exact Or.inr ⟨w', by omega, q4⟩
                    have := hok q m z p m y hi.1 hi.2.2.2 hs
                    omega
                · exact Or.inl
              refine zJ_le (ih2 (w + 1) g2 (by omega) (fr_trans hf' (fr_sub hf2 (fun c i q => by simp at q ⊢; omega))) (fun w' hw' => ?_) (fun p m' y a1 a2 a3 => ?_)) (And.intro rfl (And.intro rfl (And.intro rfl (And.intro rfl (And.intro rfl (And.intro rfl (And.intro rfl trivial))))))) rfl rfl
              · by_cases ew : w' = w
                · subst ew; exact hab2
                · exact AbOK_c (hf2 38 w' (by simp; exact ew)).1 (funext fun i => (hf2 34 i rfl).1) (hf2 29 w' rfl).1 (hab' w' hw')
              · rw [hb2 p m' y a1 a2 a3, hb' p m' y a1 a2 a3]
                constructor
                · rintro ((q | ⟨q, z, q1, q2⟩) | ⟨q, z, q1, q2, q3, q4⟩)
                  · exact Or.inl q
                  · refine Or.inr ⟨q, z, q1, ?_⟩
                    rcases q2 with q2 | ⟨w', q3, q4⟩
                    · exact Or.inl q2
                    · exact Or.inr ⟨w', by omega, q4⟩
                  · exact Or.inr ⟨q, z, (here' q z q1 q2).mp q3, Or.inr ⟨w, by omega, q4⟩⟩
                · rintro (q | ⟨q, z, q1, q2⟩)
                  · exact Or.inl (Or.inl q)
                  · rcases q2 with q2 | ⟨w', q3, q4⟩
                    · exact Or.inl (Or.inr ⟨q, z, q1, Or.inl q2⟩)
                    · by_cases ew : w' = w
                      · subst ew
                        have hi := hin q m z q1
                        exact Or.inr ⟨q, z, by omega, hi.2.2.2, (here' q z (by omega) hi.2.2.2).mpr q1, q4⟩
                      · exact Or.inl (Or.inr ⟨q, z, q1, Or.inr ⟨w', by omega, q4⟩⟩)
          refine zrun_sound t_X5_spread C E [97] 60 _ _ _ _ ?_
          refine And.intro (by omega) (And.intro (by omega) ?_)
          refine zcall_i (d' := d - 1) (by omega) (c_X5_waiting (by omega) g σ P N m hSg hl) ?_
          rintro o g' ⟨rfl, r, rfl, hr⟩
          refine And.intro (by omega) (And.intro (by omega) ?_)
          rw [em1]
          refine zJ_le (ways N 0 (setL g 35 (m + 1) (g.2 35 (m + 1) ||| (g.2 35 m &&& r))) (by omega) (fr_setL hf rfl) (fun w hw => AbOK_c rfl rfl rfl (hab w hw)) (fun p m' y a1 a2 a3 => ?_)) (And.intro rfl (And.intro rfl (And.intro rfl (And.intro rfl (And.intro rfl (And.intro rfl (And.intro rfl trivial))))))) rfl rfl
          rw [setL_at]
          by_cases emm : m' = m + 1
          · subst emm
            rw [if_pos ⟨rfl, rfl⟩, lb_or, lb_and, Bool.or_eq_true, Bool.and_eq_true, here p y a1 a3, hr p y a1 a3, hb p (m + 1) y a1 a2 a3, g5]
            constructor
            · rintro (q | ⟨q1, q2, q3⟩)
              · exact Or.inl q
              · exact Or.inr ⟨p, y, q1, Or.inl ⟨rfl, rfl, rfl, q3⟩⟩
            · rintro (q | ⟨q, z, q1, q2⟩)
              · exact Or.inl q
              · rcases q2 with ⟨s1, s2, s3, s4⟩ | ⟨w', s1, -⟩
                · subst s1; subst s3
                  exact Or.inr ⟨q1, (hin _ _ _ q1).1, s4⟩
                · omega
          · rw [if_neg (fun q => emm q.2), hb p m' y a1 a2 a3]
            constructor
            · exact Or.inl
            · rintro (q | ⟨q, z, q1, q2⟩)
              · exact q
              · rcases q2 with ⟨s1, s2, s3, s4⟩ | ⟨w', s1, -⟩
                · exact absurd s2 emm
                · omega
        have rest : ∀ x : Int, (x = 0 ↔ g.2 35 m = 0) → inR x → zJ X 65 [some (sR 4), some (sR 35), none, some (sL goals), none, some (sI e), some (sI m), some (sL (g.2 35 m)), none] [sI x] g := by
          intro x hx hxr
          refine zrun_sound t_X5_spread C E [124, 76] 40 _ _ _ _ ?_
          refine And.intro hxr (And.intro (fun c => ?_) (fun c => ?_))
          · exact zJ_le (skip (dead (hx.mp c))) (And.intro rfl (And.intro rfl (And.intro rfl (And.intro rfl (And.intro rfl trivial))))) rfl rfl
          · refine And.intro (by omega) (And.intro (by omega) (And.intro (fun c2 => ?_) (fun c2 => ?_)))
            · exact zJ_le (skip (late (by omega))) (And.intro rfl (And.intro rfl (And.intro rfl (And.intro rfl (And.intro rfl trivial))))) rfl rfl
            · exact zJ_le (go61 (fun q => c (hx.mpr q)) (by omega)) (And.intro rfl (And.intro rfl (And.intro rfl (And.intro rfl (And.intro rfl (And.intro rfl trivial)))))) rfl rfl
        refine zrun_sound t_X5_spread C E [65] 10 _ _ _ _ ?_
        refine And.intro (fun c => ?_) (And.intro (fun c => ?_) (fun c => ?_))
        · exact rest (-1) ⟨fun q => absurd q (by decide), fun q => by rw [q] at c; exact absurd c (by decide)⟩ (by decide)
        · exact rest 0 ⟨fun _ => c, fun _ => rfl⟩ (by decide)
        · exact rest 1 ⟨fun q => absurd q (by decide), fun q => by rw [q] at c; exact absurd c (by decide)⟩ (by decide)
      refine And.intro (fun c => ?_) (And.intro (fun c => ?_) (fun c => ?_))
      · refine And.intro (by decide) (And.intro (fun q => absurd q (by decide)) (fun _ => ?_))
        exact fin (fun q => by rw [q] at c; exact absurd c (by decide))
      · refine And.intro (by decide) (And.intro (fun _ => ?_) (fun q => absurd rfl q))
        exact zJ_le (cont c) (And.intro rfl (And.intro rfl (And.intro rfl (And.intro rfl (And.intro rfl (And.intro rfl trivial)))))) rfl rfl
      · refine And.intro (by decide) (And.intro (fun q => absurd q (by decide)) (fun _ => ?_))
        exact fin (fun q => by rw [q] at c; exact absurd c (by decide))
  refine zrun_sound t_X5_spread C E [36] 80 _ _ _ _ ?_
  refine zcall_i (d' := d - 1) (by omega) (c_fillL_35 h 0) ?_
  rintro o g1 ⟨rfl, f1, v1⟩
  refine zcall_i (d' := d - 1) (by omega) (c_fillI_38 g1 (-1)) ?_
  rintro o g2 ⟨rfl, f2, v2⟩
  refine And.intro (by omega) (And.intro (by omega) ?_)
  refine And.intro (by omega) (And.intro (by omega) ?_)
  rw [e1, e2]
  refine And.intro (by omega) (And.intro (by omega) ?_)
  refine And.intro (by omega) (And.intro (by omega) ?_)
  rw [e2]
  have hf2 : fr (fun c _ => c == 35 || c == 38) h g2 := fr_trans (fr_sub f1 (fun c i q => by simp at q ⊢; omega)) (fr_sub f2 (fun c i q => by simp at q ⊢; omega))
  refine zJ_le (loop (e + 1 - m0) m0 (setL g2 35 m0 (shl64 1 (4 * (p0 : Int)))) ?_ ⟨Nat.le_refl _, by omega⟩ (fr_setL hf2 rfl) (fun w hw => ?_) (fun p m' y a1 a2 a3 => ?_) (fun p m' y a1 a2 => ?_)) (And.intro rfl (And.intro rfl (And.intro rfl (And.intro rfl (And.intro rfl trivial))))) rfl rfl
  · omega
  · refine ⟨?_, Or.inl ?_⟩
    · show -1 ≤ g2.1 38 w ∧ g2.1 38 w ≤ 1440
      rw [v2 w (by omega)]
      omega
    · show g2.1 38 w < m0
      rw [v2 w (by omega)]
      omega
  · have hU : RdU (SC h σ N) p0 m0 m0 p m' y ↔ (p = p0 ∧ m' = m0 ∧ y = 0) := by
      constructor
      · rintro (q | ⟨q, n, z, q1, q2, -⟩)
        · exact q
        · have := hin q n z q1
          omega
      · exact Or.inl
    rw [hU, setL_at]
    by_cases em : m' = m0
    · subst em
      rw [if_pos ⟨rfl, rfl⟩, show (1 : Int64) = i2l 1 from rfl, lb_one (Or.inr rfl) (by omega) (by omega) _ (by omega), show (4 * (p0 : Int)).toNat = 4 * p0 by omega]
      simp
      omega
    · rw [if_neg (fun q => em q.2), (f2 35 m' rfl).2, v1 m' (by omega), lb_0]
      exact ⟨fun q => (by cases q), fun q => absurd q.2.1 em⟩
  · have := hin p m' y a2
    omega
set_option maxHeartbeats 16000000 in
theorem c_X5_spread_36 {d : Nat} (hd : 4 ≤ d) (h : zH) (σ P N : Nat) (fm : Int) (p0 m0 e : Nat) (goals : Int64) (hS : SP h σ P N) (hfm : 0 ≤ fm ∧ fm ≤ 2000000) (e1 : fm / 10000 = p0) (e2 : fm % 10000 = m0) (hp0 : p0 < P) (hm0 : m0 < 1440) (he : e < 1440) (hg : ∀ j, j < 64 → lb goals j = true → j < 48) :
    zC d k_X5_spread [sR 4, sR 36, sI fm, sL goals, sI e] h (fun o g => fr (fun c _ => c == 36 || c == 38) h g ∧
      ((o = some (sI (-2)) ∧ (∀ p m y : Nat, m ≤ e → RdS (SC h σ N) p0 m0 p m y → lb goals (4 * p + y) = false) ∧ ∀ p m y : Nat, p < 12 → m ≤ e → y < 4 → (lb (g.2 36 m) (4 * p + y) = true ↔ RdS (SC h σ N) p0 m0 p m y)) ∨
       (∃ m : Nat, o = some (sI m) ∧ m ≤ e ∧ (∃ p y : Nat, RdS (SC h σ N) p0 m0 p m y ∧ lb goals (4 * p + y) = true) ∧ ∀ p m' y : Nat, m' < m → RdS (SC h σ N) p0 m0 p m' y → lb goals (4 * p + y) = false))) := by
  have hok := SC_ok hS
  have hin := fun p m y (hr : RdS (SC h σ N) p0 m0 p m y) => RdS_in hok hp0 hm0 hr
  have hS2 := hS
  obtain ⟨hN, hN24, hP, hP12, hσ, hends, hlen, hhu, hrg, hrow, hsf, htk⟩ := hS
  refine zC_of (by decide +kernel) (Nat.le_of_ble_eq_true rfl) (fun X C E => ?_)
  -- the loop over the minutes
  have loop : ∀ (f m : Nat) (g : zH), m + f = max (e + 1) m → m0 ≤ m ∧ m ≤ 1440 → fr (fun c _ => c == 36 || c == 38) h g → (∀ w, w < N → AbOK g w m) → (∀ p m' y : Nat, p < 12 → m' < 1440 → y < 4 → (lb (g.2 36 m') (4 * p + y) = true ↔ RdU (SC h σ N) p0 m0 m p m' y)) → (∀ p m' y : Nat, m' < m → RdS (SC h σ N) p0 m0 p m' y → lb goals (4 * p + y) = false) →
      zJ X 36 [some (sR 4), some (sR 36), none, some (sL goals), none, some (sI e), some (sI m)] [] g := by
    intro f
    induction f with
    | zero =>
      intro m g hm hmm hf hab hb hng
      refine zrun_sound t_X5_spread C E [] 60 _ _ _ _ ?_
      refine And.intro (by omega) (And.intro (by omega) (And.intro (fun c => ?_) (fun c => absurd (show (e : Int) < m by omega) c)))
      refine And.intro hf (Or.inl ⟨rfl, fun p m' y a b => hng p m' y (by omega) b, fun p m' y a1 a2 a3 => ?_⟩)
      rw [hb p m' y a1 (by omega) a3]
      exact RdU_iff hok hp0 hm0 (by omega)
    | succ f ih =>
      intro m g hm hmm hf hab hb hng
      have em : ((m : Int)).toNat = m := rfl
      have em1 : ((m : Int) + 1).toNat = m + 1 := by omega
      have ge := frS_e hf (by decide)
      have hSg := SP_c ge hS2
      obtain ⟨g1, g2, g3, g4⟩ := go_c (σ := σ) (w := 0) (m := 0) (y := 0) ge
      have g5 := wt_c ge (hf 4 6 rfl).2
      have here : ∀ p y : Nat, p < 12 → y < 4 → (lb (g.2 36 m) (4 * p + y) = true ↔ RdS (SC h σ N) p0 m0 p m y) := fun p y a b => by
        rw [hb p m y a (by omega) b]
        exact RdU_iff hok hp0 hm0 (by omega)
      -- on to the next minute
      have next : ∀ g' : zH, fr (fun c _ => c == 36 || c == 38) h g' → (∀ w, w < N → AbOK g' w m) → (∀ p m' y : Nat, p < 12 → m' < 1440 → y < 4 → (lb (g'.2 36 m') (4 * p + y) = true ↔ RdU (SC h σ N) p0 m0 (m + 1) p m' y)) → (∀ p y : Nat, RdS (SC h σ N) p0 m0 p m y → lb goals (4 * p + y) = false) → zJ X 124 [some (sR 4), some (sR 36), none, some (sL goals), none, some (sI e), some (sI m)] [] g' := by
        intro g' a1 a2 a3 a4
        refine zrun_sound t_X5_spread C E [36] 20 _ _ _ _ ?_
        refine zJ_le (ih (m + 1) g' (by omega) (by omega) a1 (fun w hw => AbOK_s (a2 w hw)) a3 (fun p m' y b1 b2 => ?_)) (And.intro rfl (And.intro rfl (And.intro rfl (And.intro rfl (And.intro rfl trivial))))) rfl rfl
        by_cases em : m' = m
        · subst em; exact a4 p y b2
        · exact hng p m' y (by omega) b2
      refine zrun_sound t_X5_spread C E [61] 140 _ _ _ _ ?_
      refine And.intro (by omega) (And.intro (by omega) (And.intro (fun c => absurd c (by omega)) (fun c => ?_)))
      refine And.intro (by omega) (And.intro (by omega) ?_)
      rw [em]
      have isgoal : ¬ (g.2 36 m &&& goals) = 0 → ∃ p y : Nat, RdS (SC h σ N) p0 m0 p m y ∧ lb goals (4 * p + y) = true := by
        intro hne
        obtain ⟨j, hj, hl⟩ := lb_ne0.mp hne
        rw [lb_and, Bool.and_eq_true] at hl
        have hj48 := hg j hj hl.2
        have ej : 4 * (j / 4) + j % 4 = j := by omega
        refine ⟨j / 4, j % 4, (here (j / 4) (j % 4) (by omega) (by omega)).mp (by rw [ej]; exact hl.1), by rw [ej]; exact hl.2⟩
      have notgoal : (g.2 36 m &&& goals) = 0 → ∀ p y : Nat, RdS (SC h σ N) p0 m0 p m y → lb goals (4 * p + y) = false := by
        intro hz p y hr
        have hi := hin p m y hr
        have hl := (here p y (by omega) hi.2.2.2).mpr hr
        have : lb (g.2 36 m &&& goals) (4 * p + y) = false := by rw [hz, lb_0]
        rw [lb_and, hl, Bool.true_and] at this
        exact this
      have fin : (¬ (g.2 36 m &&& goals) = 0) → (fr (fun c _ => c == 36 || c == 38) h g ∧
      ((some (sI m) = some (sI (-2)) ∧ (∀ p m y : Nat, m ≤ e → RdS (SC h σ N) p0 m0 p m y → lb goals (4 * p + y) = false) ∧ ∀ p m y : Nat, p < 12 → m ≤ e → y < 4 → (lb (g.2 36 m) (4 * p + y) = true ↔ RdS (SC h σ N) p0 m0 p m y)) ∨
       (∃ m_1 : Nat, some (sI m) = some (sI m_1) ∧ m_1 ≤ e ∧ (∃ p y : Nat, RdS (SC h σ N) p0 m0 p m_1 y ∧ lb goals (4 * p + y) = true) ∧ ∀ p m' y : Nat, m' < m_1 → RdS (SC h σ N) p0 m0 p m' y → lb goals (4 * p + y) = false))) :=
        fun hne => And.intro hf (Or.inr ⟨m, rfl, by omega, isgoal hne, hng⟩)
      have cont : (g.2 36 m &&& goals) = 0 → zJ X 61 [some (sR 4), some (sR 36), none, some (sL goals), none, some (sI e), some (sI m), some (sL (g.2 36 m)), none] [] g := by
        intro hz
        have ng := notgoal hz
        have skip : (∀ p z p' m' y' : Nat, RdS (SC h σ N) p0 m0 p m z → ¬ SC h σ N p m z p' m' y') → zJ X 124 [some (sR 4), some (sR 36), none, some (sL goals), none, some (sI e), some (sI m)] [] g := by
          intro hs
          refine next g hf hab (fun p m' y a1 a2 a3 => ?_) ng
          rw [hb p m' y a1 a2 a3, RdU_s]
          constructor
          · exact Or.inl
          · rintro (q | ⟨p2, z, q1, q2⟩)
            · exact q
            · exact absurd q2 (hs p2 z p m' y q1)
        have dead : g.2 36 m = 0 → ∀ p z p' m' y' : Nat, RdS (SC h σ N) p0 m0 p m z → ¬ SC h σ N p m z p' m' y' := by
          intro hz0 p z p' m' y' hr
          have hi := hin p m z hr
          have := (here p z (by omega) hi.2.2.2).mpr hr
          rw [hz0, lb_0] at this
          cases this
        have late : ¬ m < 1439 → ∀ p z p' m' y' : Nat, RdS (SC h σ N) p0 m0 p m z → ¬ SC h σ N p m z p' m' y' := by
          intro hl p z p' m' y' hr hs
          have hi := hin p m z hr
          have := hok p m z p' m' y' hi.1 hi.2.2.2 hs
          omega
        have go61 : ¬ g.2 36 m = 0 → m < 1439 → zJ X 76 [some (sR 4), some (sR 36), none, some (sL goals), none, some (sI e), some (sI m), some (sL (g.2 36 m)), none] [] g := by
          intro hz0 hl
          -- the ways
          have ways : ∀ (f w : Nat) (g' : zH), w + f = N → fr (fun c _ => c == 36 || c == 38) h g' → (∀ w, w < N → AbOK g' w m) → (∀ p m' y : Nat, p < 12 → m' < 1440 → y < 4 → (lb (g'.2 36 m') (4 * p + y) = true ↔ RdU (SC h σ N) p0 m0 m p m' y ∨ ∃ q z, RdS (SC h σ N) p0 m0 q m z ∧ (wtS (wtC h) q m z p m' y ∨ ∃ w', w' < w ∧ wyS (h.1 26) (h.1 27) (tkC h σ) (goC h σ) w' q m z p m' y))) →
              zJ X 97 [some (sR 4), some (sR 36), none, some (sL goals), none, some (sI e), some (sI m), some (sL (g.2 36 m)), none, some (sI w)] [] g' := by
            intro f2
            induction f2 with
            | zero =>
              intro w g' hw hf' hab' hb'
              have e210 : g'.1 2 10 = N := by rw [(hf' 2 10 rfl).1, hN]
              refine zrun_sound t_X5_spread C E [124] 40 _ _ _ _ ?_
              refine And.intro (by omega) (And.intro (by omega) (And.intro (fun c => ?_) (fun c => absurd c (by omega))))
              refine zJ_le (next g' hf' hab' (fun p m' y a1 a2 a3 => ?_) ng) (And.intro rfl (And.intro rfl (And.intro rfl (And.intro rfl (And.intro rfl trivial))))) rfl rfl
              have ew : w = N := by omega
              rw [hb' p m' y a1 a2 a3, RdU_s, ew]
              rfl
            | succ f2 ih2 =>
              intro w g' hw hf' hab' hb'
              have e210 : g'.1 2 10 = N := by rw [(hf' 2 10 rfl).1, hN]
              have ge' := frS_e hf' (by decide)
              have hSg' := SP_c ge' hS2
              obtain ⟨x1, x2, x3, x4⟩ := go_c (σ := σ) (w := 0) (m := 0) (y := 0) ge'
              refine zrun_sound t_X5_spread C E [97] 60 _ _ _ _ ?_
              refine And.intro (by omega) (And.intro (by omega) (And.intro (fun c => absurd c (by omega)) (fun c => ?_)))
              refine zcall_i (d' := d - 1) (by omega) (c_X5_leave_36 (by omega) g' σ P N m w hSg' (by omega) (by omega) (hab' w (by omega))) ?_
              rintro o g2 ⟨rfl, hf2, hab2, hb2⟩
              rw [x1, x2, x3, x4] at hb2
              have here' : ∀ p y : Nat, p < 12 → y < 4 → (lb (g'.2 36 m) (4 * p + y) = true ↔ RdS (SC h σ N) p0 m0 p m y) := fun p y a b => by
                rw [hb' p m y a (by omega) b, RdU_iff hok hp0 hm0 (Nat.le_refl m)]
                constructor
                · rintro (q | ⟨q, z, q1, q2⟩)
                  · exact q
                  · have hi := hin q m z q1
                    have hs : SC h σ N q m z p m y := by
                      rcases q2 with q2 | ⟨w', q3, q4⟩
                      · exact Or.inl q2
                      · exact Or.inr ⟨w', by omega, q4⟩
                    have := hok q m z p m y hi.1 hi.2.2.2 hs
                    omega
                · exact Or.inl
              refine zJ_le (ih2 (w + 1) g2 (by omega) (fr_trans hf' (fr_sub hf2 (fun c i q => by simp at q ⊢; omega))) (fun w' hw' => ?_) (fun p m' y a1 a2 a3 => ?_)) (And.intro rfl (And.intro rfl (And.intro rfl (And.intro rfl (And.intro rfl (And.intro rfl (And.intro rfl trivial))))))) rfl rfl
              · by_cases ew : w' = w
                · subst ew; exact hab2
                · exact AbOK_c (hf2 38 w' (by simp; exact ew)).1 (funext fun i => (hf2 34 i rfl).1) (hf2 29 w' rfl).1 (hab' w' hw')
              · rw [hb2 p m' y a1 a2 a3, hb' p m' y a1 a2 a3]
                constructor
                · rintro ((q | ⟨q, z, q1, q2⟩) | ⟨q, z, q1, q2, q3, q4⟩)
                  · exact Or.inl q
                  · refine Or.inr ⟨q, z, q1, ?_⟩
                    rcases q2 with q2 | ⟨w', q3, q4⟩
                    · exact Or.inl q2
                    · exact Or.inr ⟨w', by omega, q4⟩
                  · exact Or.inr ⟨q, z, (here' q z q1 q2).mp q3, Or.inr ⟨w, by omega, q4⟩⟩
                · rintro (q | ⟨q, z, q1, q2⟩)
                  · exact Or.inl (Or.inl q)
                  · rcases q2 with q2 | ⟨w', q3, q4⟩
                    · exact Or.inl (Or.inr ⟨q, z, q1, Or.inl q2⟩)
                    · by_cases ew : w' = w
                      · subst ew
                        have hi := hin q m z q1
                        exact Or.inr ⟨q, z, by omega, hi.2.2.2, (here' q z (by omega) hi.2.2.2).mpr q1, q4⟩
                      · exact Or.inl (Or.inr ⟨q, z, q1, Or.inr ⟨w', by omega, q4⟩⟩)
          refine zrun_sound t_X5_spread C E [97] 60 _ _ _ _ ?_
          refine And.intro (by omega) (And.intro (by omega) ?_)
          refine zcall_i (d' := d - 1) (by omega) (c_X5_waiting (by omega) g σ P N m hSg hl) ?_
          rintro o g' ⟨rfl, r, rfl, hr⟩
          refine And.intro (by omega) (And.intro (by omega) ?_)
          rw [em1]
          refine zJ_le (ways N 0 (setL g 36 (m + 1) (g.2 36 (m + 1) ||| (g.2 36 m &&& r))) (by omega) (fr_setL hf rfl) (fun w hw => AbOK_c rfl rfl rfl (hab w hw)) (fun p m' y a1 a2 a3 => ?_)) (And.intro rfl (And.intro rfl (And.intro rfl (And.intro rfl (And.intro rfl (And.intro rfl (And.intro rfl trivial))))))) rfl rfl
          rw [setL_at]
          by_cases emm : m' = m + 1
          · subst emm
            rw [if_pos ⟨rfl, rfl⟩, lb_or, lb_and, Bool.or_eq_true, Bool.and_eq_true, here p y a1 a3, hr p y a1 a3, hb p (m + 1) y a1 a2 a3, g5]
            constructor
            · rintro (q | ⟨q1, q2, q3⟩)
              · exact Or.inl q
              · exact Or.inr ⟨p, y, q1, Or.inl ⟨rfl, rfl, rfl, q3⟩⟩
            · rintro (q | ⟨q, z, q1, q2⟩)
              · exact Or.inl q
              · rcases q2 with ⟨s1, s2, s3, s4⟩ | ⟨w', s1, -⟩
                · subst s1; subst s3
                  exact Or.inr ⟨q1, (hin _ _ _ q1).1, s4⟩
                · omega
          · rw [if_neg (fun q => emm q.2), hb p m' y a1 a2 a3]
            constructor
            · exact Or.inl
            · rintro (q | ⟨q, z, q1, q2⟩)
              · exact q
              · rcases q2 with ⟨s1, s2, s3, s4⟩ | ⟨w', s1, -⟩
                · exact absurd s2 emm
                · omega
        have rest : ∀ x : Int, (x = 0 ↔ g.2 36 m = 0) → inR x → zJ X 65 [some (sR 4), some (sR 36), none, some (sL goals), none, some (sI e), some (sI m), some (sL (g.2 36 m)), none] [sI x] g := by
          intro x hx hxr
          refine zrun_sound t_X5_spread C E [124, 76] 40 _ _ _ _ ?_
          refine And.intro hxr (And.intro (fun c => ?_) (fun c => ?_))
          · exact zJ_le (skip (dead (hx.mp c))) (And.intro rfl (And.intro rfl (And.intro rfl (And.intro rfl (And.intro rfl trivial))))) rfl rfl
          · refine And.intro (by omega) (And.intro (by omega) (And.intro (fun c2 => ?_) (fun c2 => ?_)))
            · exact zJ_le (skip (late (by omega))) (And.intro rfl (And.intro rfl (And.intro rfl (And.intro rfl (And.intro rfl trivial))))) rfl rfl
            · exact zJ_le (go61 (fun q => c (hx.mpr q)) (by omega)) (And.intro rfl (And.intro rfl (And.intro rfl (And.intro rfl (And.intro rfl (And.intro rfl trivial)))))) rfl rfl
        refine zrun_sound t_X5_spread C E [65] 10 _ _ _ _ ?_
        refine And.intro (fun c => ?_) (And.intro (fun c => ?_) (fun c => ?_))
        · exact rest (-1) ⟨fun q => absurd q (by decide), fun q => by rw [q] at c; exact absurd c (by decide)⟩ (by decide)
        · exact rest 0 ⟨fun _ => c, fun _ => rfl⟩ (by decide)
        · exact rest 1 ⟨fun q => absurd q (by decide), fun q => by rw [q] at c; exact absurd c (by decide)⟩ (by decide)
      refine And.intro (fun c => ?_) (And.intro (fun c => ?_) (fun c => ?_))
      · refine And.intro (by decide) (And.intro (fun q => absurd q (by decide)) (fun _ => ?_))
        exact fin (fun q => by rw [q] at c; exact absurd c (by decide))
      · refine And.intro (by decide) (And.intro (fun _ => ?_) (fun q => absurd rfl q))
        exact zJ_le (cont c) (And.intro rfl (And.intro rfl (And.intro rfl (And.intro rfl (And.intro rfl (And.intro rfl trivial)))))) rfl rfl
      · refine And.intro (by decide) (And.intro (fun q => absurd q (by decide)) (fun _ => ?_))
        exact fin (fun q => by rw [q] at c; exact absurd c (by decide))
  refine zrun_sound t_X5_spread C E [36] 80 _ _ _ _ ?_
  refine zcall_i (d' := d - 1) (by omega) (c_fillL_36 h 0) ?_
  rintro o g1 ⟨rfl, f1, v1⟩
  refine zcall_i (d' := d - 1) (by omega) (c_fillI_38 g1 (-1)) ?_
  rintro o g2 ⟨rfl, f2, v2⟩
  refine And.intro (by omega) (And.intro (by omega) ?_)
  refine And.intro (by omega) (And.intro (by omega) ?_)
  rw [e1, e2]
  refine And.intro (by omega) (And.intro (by omega) ?_)
  refine And.intro (by omega) (And.intro (by omega) ?_)
  rw [e2]
  have hf2 : fr (fun c _ => c == 36 || c == 38) h g2 := fr_trans (fr_sub f1 (fun c i q => by simp at q ⊢; omega)) (fr_sub f2 (fun c i q => by simp at q ⊢; omega))
  refine zJ_le (loop (e + 1 - m0) m0 (setL g2 36 m0 (shl64 1 (4 * (p0 : Int)))) ?_ ⟨Nat.le_refl _, by omega⟩ (fr_setL hf2 rfl) (fun w hw => ?_) (fun p m' y a1 a2 a3 => ?_) (fun p m' y a1 a2 => ?_)) (And.intro rfl (And.intro rfl (And.intro rfl (And.intro rfl (And.intro rfl trivial))))) rfl rfl
  · omega
  · refine ⟨?_, Or.inl ?_⟩
    · show -1 ≤ g2.1 38 w ∧ g2.1 38 w ≤ 1440
      rw [v2 w (by omega)]
      omega
    · show g2.1 38 w < m0
      rw [v2 w (by omega)]
      omega
  · have hU : RdU (SC h σ N) p0 m0 m0 p m' y ↔ (p = p0 ∧ m' = m0 ∧ y = 0) := by
      constructor
      · rintro (q | ⟨q, n, z, q1, q2, -⟩)
        · exact q
        · have := hin q n z q1
          omega
      · exact Or.inl
    rw [hU, setL_at]
    by_cases em : m' = m0
    · subst em
      rw [if_pos ⟨rfl, rfl⟩, show (1 : Int64) = i2l 1 from rfl, lb_one (Or.inr rfl) (by omega) (by omega) _ (by omega), show (4 * (p0 : Int)).toNat = 4 * p0 by omega]
      simp
      omega
    · rw [if_neg (fun q => em q.2), (f2 36 m' rfl).2, v1 m' (by omega), lb_0]
      exact ⟨fun q => (by cases q), fun q => absurd q.2.1 em⟩
  · have := hin p m' y a2
    omega
