def frR : Nat → Nat → Bool := fun c i => c == 69 || c == 70 || c == 71 || c == 72 || (c == 52 && i == 27)
def RB (h : zH) (σ P N : Nat) : Prop := N ≤ 24 ∧ P ≤ 12 ∧ σ < 4 ∧ h.1 52 20 = P ∧ h.1 52 21 = N ∧ (∀ w : Nat, w < N → (0 ≤ h.1 66 w ∧ h.1 66 w < P) ∧ (0 ≤ h.1 67 w ∧ h.1 67 w < P) ∧ h.1 66 w ≠ h.1 67 w) ∧ (∀ w : Nat, w < N → 1 ≤ h.1 68 w ∧ h.1 68 w ≤ 90) ∧ (50 ≤ h.1 53 (84 + σ) ∧ h.1 53 (84 + σ) ≤ 400) ∧ inR (h.1 52 31) ∧ inR (h.1 52 34) ∧ (∀ w : Nat, w < N → (0 ≤ h.1 53 (36 + w) ∧ h.1 53 (36 + w) ≤ 1439) ∧ (0 ≤ h.1 53 (60 + w) ∧ h.1 53 (60 + w) ≤ 1439))
theorem RB_L {h g : zH} {σ P N : Nat} {hi be : Nat → Int} (hf : fr frL h g) (hR : RB h σ P N) (hL : Lay g σ hi be P N) : RP g σ P N hi be := by
  obtain ⟨a1, a2, a3, a4, a5, a6, a7, a8, a9, a10, a11⟩ := hR
  have e := fun c i (q : frL c i = false) => (hf c i q).1
  exact ⟨hL, a1, a2, a3, by rw [e 52 20 rfl]; exact a4, by rw [e 52 21 rfl]; exact a5, fun w hw => by rw [e 66 w rfl, e 67 w rfl]; exact a6 w hw, fun w hw => by rw [e 68 w rfl]; exact a7 w hw, by rw [e 53 _ rfl]; exact a8, by rw [e 52 31 rfl]; exact a9, by rw [e 52 34 rfl]; exact a10, fun w hw => by rw [e 53 _ rfl, e 53 _ rfl]; exact a11 w hw⟩
theorem SR_L {h g : zH} {σ N : Nat} {hi be : Nat → Int} (hf : fr frR h g) : SR g σ N hi be = SR h σ N hi be := by
  have e := fun c (q : ∀ i, frR c i = false) => (funext fun i => (hf c i (q i)).1 : g.1 c = h.1 c)
  have t : tkR g σ = tkR h σ := by
    unfold tkR
    rw [e 68 (fun _ => rfl), e 53 (fun _ => rfl)]
  have f : goR g σ hi be = goR h σ hi be := by
    unfold goR fsR lsR
    rw [t, (hf 52 31 rfl).1, e 53 (fun _ => rfl)]
  have w : wtR g hi = wtR h hi := by
    unfold wtR
    rw [(hf 52 34 rfl).1, e 53 (fun _ => rfl)]
  unfold SR
  rw [t, f, w, e 66 (fun _ => rfl), e 67 (fun _ => rfl)]
def tellsR (g : zH) (P : Nat) (φ : Nat → Nat → Nat → Prop) : Prop := ∀ p m y : Nat, p < P → m < 1440 → y < 4 → (g.1 72 (ixS p m y) = 1 ∧ φ p m y) ∨ (g.1 72 (ixS p m y) = 0 ∧ ¬ φ p m y)
theorem tellsR_eq {g : zH} {P : Nat} {φ ψ : Nat → Nat → Nat → Prop} (h : tellsR g P φ) (he : ∀ p m y, p < P → m < 1440 → y < 4 → (φ p m y ↔ ψ p m y)) : tellsR g P ψ := fun p m y a b c => by
  rcases h p m y a b c with ⟨q1, q2⟩ | ⟨q1, q2⟩
  · exact Or.inl ⟨q1, (he p m y a b c).mp q2⟩
  · exact Or.inr ⟨q1, fun q => q2 ((he p m y a b c).mpr q)⟩
set_option maxHeartbeats 8000000 in
theorem c_X9_reach {d : Nat} (hd : 4 ≤ d) (h : zH) (fm st : Int) (p0 m0 σ t s n P N : Nat) (hfm : 0 ≤ fm ∧ fm ≤ 2000000) (f1 : fm / 10000 = p0) (f2 : fm % 10000 = m0) (hp0 : p0 < P) (hm0 : m0 < 1440) (hst : 0 ≤ st ∧ st ≤ 39) (e1 : st / 10 = σ) (e2 : st % 10 = t) (hV : VR h t n P N) (hB : RB h σ P N) (hs : s < 32) :
    zC d k_X9_reach [sR 52, sI fm, sI st, sI s] h (fun o g => o = none ∧ fr frR h g ∧ RP g σ P N (hiR h t s n) (beR h) ∧ tellsR g P (RdS (SR h σ N (hiR h t s n) (beR h)) p0 m0)) := by
  refine zC_of (by decide +kernel) (Nat.le_of_ble_eq_true rfl) (fun X C E => ?_)
  refine zrun_sound t_X9_reach C E [9] 60 _ _ _ _ ?_
  refine zcall_i (d' := d - 1) (by omega) (c_X9_layOut (by omega) h st σ t s n P N hst e1 e2 hV hs) ?_
  rintro o g0 ⟨rfl, hf0, hL⟩
  have hR0 := RB_L hf0 hB hL
  have hfr0 : fr frR h g0 := fr_sub hf0 (fun c i q => by simp [frL, frR] at q ⊢; omega)
  generalize hhi : hiR h t s n = hi at hL hR0
  generalize hbe : beR h = be at hL hR0
  have hP12 := hB.2.1
  have hS0 := SR_L (σ := σ) (N := N) (hi := hi) (be := be) hfr0
  have hok := SR_ok hR0
  rw [hS0] at hok
  generalize hSS : SR h σ N hi be = S at hok hS0
  have hin := fun p m y (hr : RdS S p0 m0 p m y) => RdS_in hok hp0 hm0 hr
  have mins : ∀ (f m : Nat) (g : zH), m + f = 1440 → m0 ≤ m → fr fr72 g0 g → tellsR g P (RdU S p0 m0 m) → zJ X 65 [some (sR 52), none, none, none, some (sI m)] [] g := by
    intro f
    induction f with
    | zero =>
      intro m g hm hmm hf ht
      refine zrun_sound t_X9_reach C E [] 40 _ _ _ _ ?_
      refine And.intro (by omega) (And.intro (by omega) (And.intro (fun c => ?_) (fun c => absurd c (by omega))))
      refine And.intro rfl (And.intro (fr_trans hfr0 (fr_sub hf (fun c i q => by simp [fr72, frR] at q ⊢; omega))) (And.intro ?_ ?_))
      · rw [hhi, hbe]
        exact RP_c hf hR0
      · rw [hhi, hbe, hSS]
        exact tellsR_eq ht (fun p m' y a b c => RdU_iff hok hp0 hm0 (by omega))
    | succ f ih =>
      intro m g hm hmm hf ht
      -- the states of this minute
      have states : ∀ (f2 p : Nat) (g : zH), p + f2 = P → fr fr72 g0 g → tellsR g P (fun p' m' y' => RdU S p0 m0 m p' m' y' ∨ ∃ q z, q < p ∧ RdS S p0 m0 q m z ∧ S q m z p' m' y') → zJ X 76 [some (sR 52), none, none, none, some (sI m), some (sI p)] [] g := by
        intro f2
        induction f2 with
        | zero =>
          intro p g hp hf ht
          have e20 : g.1 52 20 = P := (RP_c hf hR0).2.2.2.2.1
          refine zrun_sound t_X9_reach C E [65] 40 _ _ _ _ ?_
          refine And.intro (by omega) (And.intro (by omega) (And.intro (fun c => ?_) (fun c => absurd c (by omega))))
          refine zJ_le (ih (m + 1) g (by omega) (by omega) hf (tellsR_eq ht (fun p' m' y' a b c => ?_))) (And.intro rfl (And.intro rfl trivial)) rfl rfl
          rw [RdU_s]
          constructor
          · rintro (q | ⟨q, z, q1, q2, q3⟩)
            · exact Or.inl q
            · exact Or.inr ⟨q, z, q2, q3⟩
          · rintro (q | ⟨q, z, q2, q3⟩)
            · exact Or.inl q
            · exact Or.inr ⟨q, z, by have := hin q m z q2; omega, q2, q3⟩
        | succ f2 ih2 =>
          intro p g hp hf ht
          have e20 : g.1 52 20 = P := (RP_c hf hR0).2.2.2.2.1
          have wear : ∀ (f3 y : Nat) (g : zH), y + f3 = 4 → fr fr72 g0 g → tellsR g P (fun p' m' y' => RdU S p0 m0 m p' m' y' ∨ ∃ q z, (q < p ∨ (q = p ∧ z < y)) ∧ RdS S p0 m0 q m z ∧ S q m z p' m' y') → zJ X 88 [some (sR 52), none, none, none, some (sI m), some (sI p), some (sI y)] [] g := by
            intro f3
            induction f3 with
            | zero =>
              intro y g hy hf ht
              refine zrun_sound t_X9_reach C E [76] 40 _ _ _ _ ?_
              refine And.intro (by omega) (And.intro (by omega) (And.intro (fun c => ?_) (fun c => absurd c (by omega))))
              refine zJ_le (ih2 (p + 1) g (by omega) hf (tellsR_eq ht (fun p' m' y' a b c => ?_))) (And.intro rfl (And.intro rfl (And.intro rfl trivial))) rfl rfl
              constructor
              · rintro (q | ⟨q, z, q1, q2, q3⟩)
                · exact Or.inl q
                · exact Or.inr ⟨q, z, by omega, q2, q3⟩
              · rintro (q | ⟨q, z, q1, q2, q3⟩)
                · exact Or.inl q
                · refine Or.inr ⟨q, z, ?_, q2, q3⟩
                  have := hin q m z q2
                  omega
            | succ f3 ih3 =>
              intro y g hy hf ht
              have hRg := RP_c hf hR0
              have hSg : SR g σ N hi be = S := (SR_c hf).1.trans hS0
              have hst := c_X9_stateOf (d := d - 1) g p m y (by omega) (by omega) (by omega)
              have hix := ixS_lt (p := p) (m := m) (y := y) (by omega) (by omega) (by omega)
              have here : (g.1 72 (ixS p m y) = 1 ∧ RdS S p0 m0 p m y) ∨ (g.1 72 (ixS p m y) = 0 ∧ ¬ RdS S p0 m0 p m y) := by
                have hu : (RdU S p0 m0 m p m y ∨ ∃ q z, (q < p ∨ (q = p ∧ z < y)) ∧ RdS S p0 m0 q m z ∧ S q m z p m y) ↔ RdS S p0 m0 p m y := by
                  rw [RdU_iff hok hp0 hm0 (Nat.le_refl m)]
                  constructor
                  · rintro (q | ⟨q, z, q1, q2, q3⟩)
                    · exact q
                    · exact RdS_s q2 q3
                  · exact Or.inl
                rcases ht p m y (by omega) (by omega) (by omega) with ⟨q1, q2⟩ | ⟨q1, q2⟩
                · exact Or.inl ⟨q1, hu.mp q2⟩
                · exact Or.inr ⟨q1, fun q => q2 (hu.mpr q)⟩
              have nx : ∀ g2 : zH, fr fr72 g0 g2 → tellsR g2 P (fun p' m' y' => RdU S p0 m0 m p' m' y' ∨ ∃ q z, (q < p ∨ (q = p ∧ z < y + 1)) ∧ RdS S p0 m0 q m z ∧ S q m z p' m' y') → zJ X 121 [some (sR 52), none, none, none, some (sI m), some (sI p), some (sI y)] [] g2 := by
                intro g2 b1 b2
                refine zrun_sound t_X9_reach C E [88] 20 _ _ _ _ ?_
                exact zJ_le (ih3 (y + 1) g2 (by omega) b1 b2) (And.intro rfl (And.intro rfl (And.intro rfl (And.intro rfl trivial)))) rfl rfl
              refine zrun_sound t_X9_reach C E [121] 60 _ _ _ _ ?_
              refine And.intro (by omega) (And.intro (by omega) (And.intro (fun c => absurd c (by omega)) (fun c => ?_)))
              refine zcall_i (d' := d - 1) (by omega) hst ?_
              rintro o g' ⟨rfl, rfl⟩
              refine And.intro (by omega) (And.intro (by omega) ?_)
              rw [show ((ixS p m y : Nat) : Int).toNat = ixS p m y from rfl]
              rcases here with ⟨v, hr⟩ | ⟨v, hr⟩
              · rw [v]
                refine And.intro (by decide) (And.intro (fun c3 => absurd c3 (by decide)) (fun _ => ?_))
                refine zcall_i (d' := d - 1) (by omega) (c_X9_spread (by omega) g σ P N p m y hi be hRg (by omega) (by omega) (by omega)) ?_
                rintro o g2 ⟨rfl, hf2, hb2⟩
                rw [hSg] at hb2
                refine zJ_le (nx g2 (fr_trans hf hf2) (fun p' m' y' a b c => ?_)) (And.intro rfl (And.intro rfl (And.intro rfl (And.intro rfl trivial)))) rfl rfl
                have grow : (∃ q z, (q < p ∨ (q = p ∧ z < y + 1)) ∧ RdS S p0 m0 q m z ∧ S q m z p' m' y') ↔ (∃ q z, (q < p ∨ (q = p ∧ z < y)) ∧ RdS S p0 m0 q m z ∧ S q m z p' m' y') ∨ S p m y p' m' y' := by
                  constructor
                  · rintro ⟨q, z, q1, q2, q3⟩
                    by_cases e : q = p ∧ z = y
                    · obtain ⟨rfl, rfl⟩ := e
                      exact Or.inr q3
                    · exact Or.inl ⟨q, z, by omega, q2, q3⟩
                  · rintro (⟨q, z, q1, q2, q3⟩ | q3)
                    · exact ⟨q, z, by omega, q2, q3⟩
                    · exact ⟨p, y, by omega, hr, q3⟩
                dsimp only
                rw [grow]
                have old := ht p' m' y' a b c
                rcases hb2 p' m' y' (by omega) b c with ⟨q1, q2⟩ | ⟨q1, q2⟩
                · refine Or.inl ⟨q1, ?_⟩
                  rcases q2 with q2 | q2
                  · rcases old with ⟨o1, o2⟩ | ⟨o1, o2⟩
                    · rcases o2 with o2 | o2
                      · exact Or.inl o2
                      · exact Or.inr (Or.inl o2)
                    · rw [o1] at q2
                      exact absurd q2 (by decide)
                  · exact Or.inr (Or.inr q2)
                · rw [q1]
                  rcases old with ⟨o1, o2⟩ | ⟨o1, o2⟩
                  · refine Or.inl ⟨o1, ?_⟩
                    rcases o2 with o2 | o2
                    · exact Or.inl o2
                    · exact Or.inr (Or.inl o2)
                  · refine Or.inr ⟨o1, ?_⟩
                    rintro (q3 | q3 | q3)
                    · exact o2 (Or.inl q3)
                    · exact o2 (Or.inr q3)
                    · exact q2 q3
              · rw [v]
                refine And.intro (by decide) (And.intro (fun _ => ?_) (fun c3 => absurd rfl c3))
                refine zJ_le (nx g hf (tellsR_eq ht (fun p' m' y' a b c => ?_))) (And.intro rfl (And.intro rfl (And.intro rfl (And.intro rfl trivial)))) rfl rfl
                constructor
                · rintro (q | ⟨q, z, q1, q2, q3⟩)
                  · exact Or.inl q
                  · exact Or.inr ⟨q, z, by omega, q2, q3⟩
                · rintro (q | ⟨q, z, q1, q2, q3⟩)
                  · exact Or.inl q
                  · refine Or.inr ⟨q, z, ?_, q2, q3⟩
                    by_cases e : q = p ∧ z = y
                    · obtain ⟨rfl, rfl⟩ := e
                      exact absurd q2 hr
                    · omega
          refine zrun_sound t_X9_reach C E [88] 40 _ _ _ _ ?_
          refine And.intro (by omega) (And.intro (by omega) (And.intro (fun c => absurd c (by omega)) (fun c => ?_)))
          refine zJ_le (wear 4 0 g (by omega) hf (tellsR_eq ht (fun p' m' y' a b c => ?_))) (And.intro rfl (And.intro rfl (And.intro rfl (And.intro rfl trivial)))) rfl rfl
          constructor
          · rintro (q | ⟨q, z, q1, q2, q3⟩)
            · exact Or.inl q
            · exact Or.inr ⟨q, z, Or.inl q1, q2, q3⟩
          · rintro (q | ⟨q, z, q1, q2, q3⟩)
            · exact Or.inl q
            · exact Or.inr ⟨q, z, by omega, q2, q3⟩
      refine zrun_sound t_X9_reach C E [76] 40 _ _ _ _ ?_
      refine And.intro (by omega) (And.intro (by omega) (And.intro (fun c => absurd c (by omega)) (fun c => ?_)))
      refine zJ_le (states P 0 g (by omega) hf (tellsR_eq ht (fun p' m' y' a b c => ?_))) (And.intro rfl (And.intro rfl (And.intro rfl trivial))) rfl rfl
      constructor
      · exact Or.inl
      · rintro (q | ⟨q, z, q1, -⟩)
        · exact q
        · omega
  have clear : ∀ (f i : Nat) (g : zH), i + f = P * 5760 → fr fr72 g0 g → (∀ j : Nat, j < i → g.1 72 j = 0) → zJ X 9 [some (sR 52), some (sI fm), none, none, some (sI i)] [] g := by
    intro f
    induction f with
    | zero =>
      intro i g hi hf hz
      have e20 : g.1 52 20 = P := (RP_c hf hR0).2.2.2.2.1
      have hst := c_X9_stateOf (d := d - 1) g p0 m0 0 (by omega) hm0 (by omega)
      have hix := ixS_lt (p := p0) (m := m0) (y := 0) (by omega) hm0 (by omega)
      rw [← f1, ← f2] at hst
      refine zrun_sound t_X9_reach C E [65] 80 _ _ _ _ ?_
      refine And.intro (by omega) (And.intro (by omega) (And.intro (fun c => ?_) (fun c => absurd c (by omega))))
      refine And.intro (by omega) (And.intro (by omega) ?_)
      refine And.intro (by omega) (And.intro (by omega) ?_)
      refine zcall_i (d' := d - 1) (by omega) hst ?_
      rintro o g' ⟨rfl, rfl⟩
      refine And.intro (by omega) (And.intro (by omega) (And.intro (Or.inr rfl) ?_))
      refine And.intro (by omega) (And.intro (by omega) ?_)
      rw [f2]
      refine zJ_le (mins (1440 - m0) m0 (setI g 72 (ixS p0 m0 0) 1) (by omega) (Nat.le_refl _) (fr_setI hf rfl) (fun p m y a b c => ?_)) (And.intro rfl (And.intro rfl trivial)) rfl rfl
      have hU : RdU S p0 m0 m0 p m y ↔ (p = p0 ∧ m = m0 ∧ y = 0) := by
        constructor
        · rintro (q | ⟨q, n', z, q1, q2, -⟩)
          · exact q
          · have := hin q n' z q1
            omega
        · exact Or.inl
      rw [hU, setI_at]
      by_cases e : p = p0 ∧ m = m0 ∧ y = 0
      · rw [if_pos ⟨rfl, by rw [e.1, e.2.1, e.2.2]⟩]
        exact Or.inl ⟨rfl, e⟩
      · rw [if_neg (fun q => e ((ixS_inj b c hm0 (by omega)).mp q.2))]
        refine Or.inr ⟨hz _ ?_, e⟩
        unfold ixS
        omega
    | succ f ih =>
      intro i g hi hf hz
      have e20 : g.1 52 20 = P := (RP_c hf hR0).2.2.2.2.1
      refine zrun_sound t_X9_reach C E [9] 40 _ _ _ _ ?_
      refine And.intro (by omega) (And.intro (by omega) (And.intro (fun c => absurd c (by omega)) (fun c => ?_)))
      refine And.intro (by omega) (And.intro (by omega) (And.intro (Or.inl rfl) ?_))
      refine zJ_le (ih (i + 1) (setI g 72 i 0) (by omega) (fr_setI hf rfl) (fun j hj => ?_)) (And.intro rfl (And.intro rfl (And.intro rfl trivial))) rfl rfl
      rw [setI_at]
      by_cases e : j = i
      · rw [if_pos ⟨rfl, e⟩]
      · rw [if_neg (fun q => e q.2)]
        exact hz j (by omega)
  exact zJ_le (clear (P * 5760) 0 g0 (by omega) (fr_rfl _ _) (fun j hj => absurd hj (by omega))) (And.intro rfl (And.intro rfl (And.intro rfl trivial))) rfl rfl
theorem c_X9_isAt {d : Nat} (hd : 1 ≤ d) (h : zH) (p m P : Nat) (φ : Nat → Nat → Nat → Prop) (hp : p < P) (hP : P ≤ 12) (hm : m < 1440) (ht : tellsR h P φ) : zC d k_X9_isAt [sR 52, sI p, sI m] h (fun o g => h = g ∧ isB o (∃ y, y < 4 ∧ φ p m y)) := by
  refine zC_of (by decide +kernel) (Nat.le_of_ble_eq_true rfl) (fun X C E => ?_)
  have loop : ∀ (f y : Nat), y + f = 4 → (∀ y', y' < y → ¬ φ p m y') → zJ X 2 [some (sR 52), some (sI p), some (sI m), some (sI y)] [] h := by
    intro f
    induction f with
    | zero =>
      intro y hy hn
      refine zrun_sound t_X9_isAt C E [] 40 _ _ _ _ ?_
      refine And.intro (by omega) (And.intro (by omega) (And.intro (fun c => ?_) (fun c => absurd c (by omega))))
      exact And.intro (Or.inl rfl) (And.intro rfl (Or.inr ⟨rfl, fun ⟨y', q1, q2⟩ => hn y' (by omega) q2⟩))
    | succ f ih =>
      intro y hy hn
      have hst := c_X9_stateOf (d := d - 1) h p m y (by omega) hm (by omega)
      have hix := ixS_lt (p := p) (m := m) (y := y) (by omega) hm (by omega)
      refine zrun_sound t_X9_isAt C E [2] 40 _ _ _ _ ?_
      refine And.intro (by omega) (And.intro (by omega) (And.intro (fun c => absurd c (by omega)) (fun c => ?_)))
      refine zcall_i (d' := d - 1) (by omega) hst ?_
      rintro o g' ⟨rfl, rfl⟩
      refine And.intro (by omega) (And.intro (by omega) ?_)
      rw [show ((ixS p m y : Nat) : Int).toNat = ixS p m y from rfl]
      rcases ht p m y hp hm (by omega) with ⟨v, hr⟩ | ⟨v, hr⟩
      · rw [v]
        refine And.intro (by decide) (And.intro (fun c3 => absurd c3 (by decide)) (fun _ => ?_))
        exact And.intro (Or.inr rfl) (And.intro rfl (Or.inl ⟨rfl, y, by omega, hr⟩))
      · rw [v]
        refine And.intro (by decide) (And.intro (fun _ => ?_) (fun c3 => absurd rfl c3))
        refine zJ_le (ih (y + 1) (by omega) (fun y' hy' => ?_)) (And.intro rfl (And.intro rfl (And.intro rfl (And.intro rfl trivial)))) rfl rfl
        by_cases e : y' = y
        · rw [e]; exact hr
        · exact hn y' (by omega)
  refine zrun_sound t_X9_isAt C E [2] 40 _ _ _ _ ?_
  exact loop 4 0 (by omega) (fun y' hy' => absurd hy' (by omega))
theorem c_X9_soonAt {d : Nat} (hd : 2 ≤ d) (h : zH) (S : Nat → Nat → Nat → Nat → Nat → Nat → Prop) (to p0 m0 P : Nat) (hok : Sok S P) (hp0 : p0 < P) (hm0 : m0 < 1440) (hto : to < P) (hP : P ≤ 12) (ht : tellsR h P (RdS S p0 m0)) : zC d k_X9_soonAt [sR 52, sI to] h (fun o g => h = g ∧ ∃ r : Int, o = some (sI r) ∧ soonR S p0 m0 to 1439 r) := by
  refine zC_of (by decide +kernel) (Nat.le_of_ble_eq_true rfl) (fun X C E => ?_)
  have loop : ∀ (f m : Nat), m + f = 1440 → (∀ m' y, m' < m → ¬ RdS S p0 m0 to m' y) → zJ X 2 [some (sR 52), some (sI to), some (sI m)] [] h := by
    intro f
    induction f with
    | zero =>
      intro m hm hn
      refine zrun_sound t_X9_soonAt C E [] 40 _ _ _ _ ?_
      refine And.intro (by omega) (And.intro (by omega) (And.intro (fun c => ?_) (fun c => absurd c (by omega))))
      exact And.intro rfl ⟨_, rfl, Or.inl ⟨rfl, fun m' y q => hn m' y (by omega)⟩⟩
    | succ f ih =>
      intro m hm hn
      refine zrun_sound t_X9_soonAt C E [2] 40 _ _ _ _ ?_
      refine And.intro (by omega) (And.intro (by omega) (And.intro (fun c => absurd c (by omega)) (fun c => ?_)))
      refine zcall_i (d' := d - 1) (by omega) (c_X9_isAt (by omega) h to m P _ hto hP (by omega) ht) ?_
      rintro o g' ⟨rfl, hB⟩
      rcases hB with ⟨rfl, y, q1, q2⟩ | ⟨rfl, hB⟩
      · refine And.intro (by decide) (And.intro (fun c3 => absurd c3 (by decide)) (fun _ => ?_))
        exact And.intro rfl ⟨_, rfl, Or.inr ⟨m, rfl, by omega, ⟨y, q2⟩, hn⟩⟩
      · refine And.intro (by decide) (And.intro (fun _ => ?_) (fun c3 => absurd rfl c3))
        refine zJ_le (ih (m + 1) (by omega) (fun m' y hy' => ?_)) (And.intro rfl (And.intro rfl (And.intro rfl trivial))) rfl rfl
        by_cases e : m' = m
        · rw [e]
          intro q
          exact hB ⟨y, (RdS_in hok hp0 hm0 q).2.2.2, q⟩
        · exact hn m' y (by omega)
  refine zrun_sound t_X9_soonAt C E [2] 40 _ _ _ _ ?_
  exact loop 1440 0 (by omega) (fun m' y hy' => absurd hy' (by omega))
