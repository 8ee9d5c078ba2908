/-! ===== the reference: going through the states ===== -/
def ixS (p m y : Nat) : Nat := (p * 1440 + m) * 4 + y
theorem ixS_inj {p m y p' m' y' : Nat} (h1 : m < 1440) (h2 : y < 4) (h3 : m' < 1440) (h4 : y' < 4) : ixS p m y = ixS p' m' y' ↔ p = p' ∧ m = m' ∧ y = y' := by
  unfold ixS
  omega
theorem ixS_lt {p m y : Nat} (hp : p < 12) (h1 : m < 1440) (h2 : y < 4) : ixS p m y < 69120 := by
  unfold ixS
  omega
def RP (h : zH) (σ P N : Nat) (hi be : Nat → Int) : Prop := Lay h σ hi be P N ∧ N ≤ 24 ∧ P ≤ 12 ∧ σ < 4 ∧ h.1 52 20 = P ∧ h.1 52 21 = N ∧ (∀ w : Nat, w < N → (0 ≤ h.1 66 w ∧ h.1 66 w < P) ∧ (0 ≤ h.1 67 w ∧ h.1 67 w < P) ∧ h.1 66 w ≠ h.1 67 w) ∧ (∀ w : Nat, w < N → 1 ≤ h.1 68 w ∧ h.1 68 w ≤ 90) ∧ (50 ≤ h.1 53 (84 + σ) ∧ h.1 53 (84 + σ) ≤ 400) ∧ inR (h.1 52 31) ∧ inR (h.1 52 34) ∧ (∀ w : Nat, w < N → (0 ≤ h.1 53 (36 + w) ∧ h.1 53 (36 + w) ≤ 1439) ∧ (0 ≤ h.1 53 (60 + w) ∧ h.1 53 (60 + w) ≤ 1439))
def tkR (h : zH) (σ : Nat) (w y : Nat) : Int := takeF (h.1 68 w) (h.1 53 (84 + σ)) y
def goR (h : zH) (σ : Nat) (hi be : Nat → Int) (w m y : Nat) : Prop := goP (fsR h w) (lsR h w) (tkR h σ w y) hi (be w) m
def wtR (h : zH) (hi : Nat → Int) (p m _y : Nat) : Prop := ¬ (p : Int) = h.1 52 34 ∧ wtP hi (h.1 53 p) m
def SR (h : zH) (σ N : Nat) (hi be : Nat → Int) : Nat → Nat → Nat → Nat → Nat → Nat → Prop := stS N (h.1 66) (h.1 67) (tkR h σ) (goR h σ hi be) (wtR h hi)
def fr72 : Nat → Nat → Bool := fun c _ => c == 72
theorem RP_c {h g : zH} {σ P N : Nat} {hi be : Nat → Int} (hf : fr fr72 h g) (hR : RP h σ P N hi be) : RP g σ P N hi be := by
  obtain ⟨⟨l1, l2, l3, l4⟩, a1, a2, a3, a4, a5, a6, a7, a8, a9, a10, a11⟩ := hR
  have e := fun c i (q : fr72 c i = false) => (hf c i q).1
  refine ⟨⟨by rw [e 52 27 rfl]; exact l1, fun m hm => by rw [e 69 m rfl]; exact l2 m hm, fun p m hp hm => by rw [e 71 _ rfl, e 53 p rfl]; exact l3 p m hp hm, fun w m hw hm => by rw [e 70 _ rfl]; exact l4 w m hw hm⟩, a1, a2, a3, by rw [e 52 20 rfl]; exact a4, by rw [e 52 21 rfl]; exact a5, fun w hw => by rw [e 66 w rfl, e 67 w rfl]; exact a6 w hw, fun w hw => by rw [e 68 w rfl]; exact a7 w hw, by rw [e 53 _ rfl]; exact a8, by rw [e 52 31 rfl]; exact a9, by rw [e 52 34 rfl]; exact a10, fun w hw => by rw [e 53 _ rfl, e 53 _ rfl]; exact a11 w hw⟩
theorem SR_c {h g : zH} {σ N : Nat} {hi be : Nat → Int} (hf : fr fr72 h g) : SR g σ N hi be = SR h σ N hi be ∧ goR g σ hi be = goR h σ hi be ∧ tkR g σ = tkR h σ ∧ wtR g hi = wtR h hi := by
  have e := fun c (q : ∀ i, fr72 c i = false) => (funext fun i => (hf c i (q i)).1 : g.1 c = h.1 c)
  have t : tkR g σ = tkR h σ := by
    unfold tkR
    rw [e 68 (fun _ => rfl), e 53 (fun _ => rfl)]
  have f : goR g σ hi be = goR h σ hi be := by
    unfold goR fsR lsR
    rw [t, e 52 (fun _ => rfl), e 53 (fun _ => rfl)]
  have w : wtR g hi = wtR h hi := by
    unfold wtR
    rw [e 52 (fun _ => rfl), e 53 (fun _ => rfl)]
  refine ⟨?_, f, t, w⟩
  unfold SR
  rw [t, f, w, e 66 (fun _ => rfl), e 67 (fun _ => rfl)]
theorem SR_ok {h : zH} {σ P N : Nat} {hi be : Nat → Int} (hR : RP h σ P N hi be) : Sok (SR h σ N hi be) P := by
  obtain ⟨-, a1, a2, a3, a4, a5, a6, a7, a8, a9, a10, a11⟩ := hR
  intro p m y p' m' y' hp hy hs
  rcases hs with ⟨rfl, rfl, rfl, hw⟩ | ⟨w, hw, hg, hm, hy', he⟩
  · have := hw.2.1
    exact ⟨by omega, by omega, hp, hy⟩
  · have tb : 1 ≤ tkR h σ w y ∧ tkR h σ w y ≤ 387 := (takeF_b (a7 w hw) a8 (by omega)).2
    have e := a6 w hw
    have := hg.2.1
    refine ⟨by omega, by omega, ?_, by omega⟩
    rcases he with ⟨-, he⟩ | ⟨-, he⟩ <;> omega
theorem c_X9_stateOf {d : Nat} (h : zH) (p m y : Nat) (hp : p < 12) (hm : m < 1440) (hy : y < 4) : zC d k_X9_stateOf [sI p, sI m, sI y] h (fun o g => h = g ∧ o = some (sI (ixS p m y))) := by
  refine zC_of (by decide +kernel) (Nat.le_of_ble_eq_true rfl) (fun X C E => zrun_sound t_X9_stateOf C E [] 40 _ _ _ _ ?_)
  refine And.intro rfl (congrArg (fun z => some (sI z)) ?_)
  unfold ixS
  omega
set_option maxHeartbeats 8000000 in
theorem c_X9_spread {d : Nat} (hd : 3 ≤ d) (h : zH) (σ P N p m y : Nat) (hi be : Nat → Int) (hR : RP h σ P N hi be) (hp : p < P) (hm : m < 1440) (hy : y < 4) :
    zC d k_X9_spread [sR 52, sI p, sI m, sI y] h (fun o g => o = none ∧ fr fr72 h g ∧ ∀ p' m' y' : Nat, p' < 12 → m' < 1440 → y' < 4 → (g.1 72 (ixS p' m' y') = 1 ∧ (h.1 72 (ixS p' m' y') = 1 ∨ SR h σ N hi be p m y p' m' y')) ∨ (g.1 72 (ixS p' m' y') = h.1 72 (ixS p' m' y') ∧ ¬ SR h σ N hi be p m y p' m' y')) := by
  have hok := SR_ok hR
  have hR2 := hR
  obtain ⟨hL, a1, a2, a3, a4, a5, a6, a7, a8, a9, a10, a11⟩ := hR
  refine zC_of (by decide +kernel) (Nat.le_of_ble_eq_true rfl) (fun X C E => ?_)
  have loop : ∀ (f w : Nat) (g : zH), w + f = N → fr fr72 h g → (∀ p' m' y' : Nat, p' < 12 → m' < 1440 → y' < 4 → (g.1 72 (ixS p' m' y') = 1 ∧ (h.1 72 (ixS p' m' y') = 1 ∨ wtS (wtR h hi) p m y p' m' y' ∨ ∃ w', w' < w ∧ wyS (h.1 66) (h.1 67) (tkR h σ) (goR h σ hi be) w' p m y p' m' y')) ∨ (g.1 72 (ixS p' m' y') = h.1 72 (ixS p' m' y') ∧ ¬ (wtS (wtR h hi) p m y p' m' y' ∨ ∃ w', w' < w ∧ wyS (h.1 66) (h.1 67) (tkR h σ) (goR h σ hi be) w' p m y p' m' y'))) →
      zJ X 40 [some (sR 52), some (sI p), some (sI m), some (sI y), some (sI ((min (y + 1) 3 : Nat) : Int)), some (sI w)] [] g := by
    intro f
    induction f with
    | zero =>
      intro w g hw hf hb
      have e21 : g.1 52 21 = N := by rw [(hf 52 21 rfl).1, a5]
      have ew : w = N := by omega
      subst ew
      refine zrun_sound t_X9_spread C E [] 60 _ _ _ _ ?_
      refine And.intro (by omega) (And.intro (by omega) (And.intro (fun c => ?_) (fun c => absurd c (by omega))))
      exact And.intro rfl (And.intro hf hb)
    | succ f ih =>
      intro w g hw hf hb
      have e21 : g.1 52 21 = N := by rw [(hf 52 21 rfl).1, a5]
      have hRg := RP_c hf hR2
      obtain ⟨s1, s2, s3, s4⟩ := SR_c (σ := σ) (N := N) (hi := hi) (be := be) hf
      have e66 : g.1 66 = h.1 66 := funext fun i => (hf 66 i rfl).1
      have e67 : g.1 67 = h.1 67 := funext fun i => (hf 67 i rfl).1
      have e68 : g.1 68 = h.1 68 := funext fun i => (hf 68 i rfl).1
      have e53 : g.1 53 = h.1 53 := funext fun i => (hf 53 i rfl).1
      have e27 : g.1 52 27 = σ := hRg.1.1
      have ends := a6 w (by omega)
      have tb : 1 ≤ tkR h σ w y ∧ tkR h σ w y ≤ 387 := (takeF_b (a7 w (by omega)) a8 (by omega)).2
      -- nothing by this way
      have nope : (∀ p' m' y', ¬ wyS (h.1 66) (h.1 67) (tkR h σ) (goR h σ hi be) w p m y p' m' y') → zJ X 100 [some (sR 52), some (sI p), some (sI m), some (sI y), some (sI ((min (y + 1) 3 : Nat) : Int)), some (sI w)] [] g := by
        intro hno
        refine zrun_sound t_X9_spread C E [40] 20 _ _ _ _ ?_
        refine zJ_le (ih (w + 1) g (by omega) hf (fun p' m' y' c1 c2 c3 => ?_)) (And.intro rfl (And.intro rfl (And.intro rfl (And.intro rfl (And.intro rfl (And.intro rfl trivial)))))) rfl rfl
        rcases hb p' m' y' c1 c2 c3 with ⟨q1, q2⟩ | ⟨q1, q2⟩
        · refine Or.inl ⟨q1, ?_⟩
          rcases q2 with q2 | q2 | ⟨w', q3, q4⟩
          · exact Or.inl q2
          · exact Or.inr (Or.inl q2)
          · exact Or.inr (Or.inr ⟨w', by omega, q4⟩)
        · refine Or.inr ⟨q1, fun q3 => q2 ?_⟩
          rcases q3 with q3 | ⟨w', q3, q4⟩
          · exact Or.inl q3
          · by_cases ew : w' = w
            · subst ew; exact absurd q4 (hno p' m' y')
            · exact Or.inr ⟨w', by omega, q4⟩
      refine zrun_sound t_X9_spread C E [100, 40] 140 _ _ _ _ ?_
      refine And.intro (by omega) (And.intro (by omega) (And.intro (fun c => absurd c (by omega)) (fun c => ?_)))
      refine zcall_i (d' := d - 1) (by omega) (c_X9_otherEnd g w p (by omega) (by omega) (by rw [e66]; omega) (by rw [e67]; omega)) ?_
      rintro o g' ⟨rfl, rfl⟩
      rw [e66, e67]
      have hoth : otherF (h.1 66) (h.1 67) w p = -1 ∨ (0 ≤ otherF (h.1 66) (h.1 67) w p ∧ otherF (h.1 66) (h.1 67) w p < P) := by
        unfold otherF
        split
        · exact Or.inr ends.2.1
        · split
          · exact Or.inr ends.1
          · exact Or.inl rfl
      have hon : otherF (h.1 66) (h.1 67) w p = -1 → ∀ p' m' y', ¬ wyS (h.1 66) (h.1 67) (tkR h σ) (goR h σ hi be) w p m y p' m' y' := by
        intro ho p' m' y' hs
        unfold otherF at ho
        rcases hs.2.2.2 with ⟨q1, q2⟩ | ⟨q1, q2⟩
        · rw [if_pos q1] at ho
          omega
        · rw [if_neg (by omega), if_pos q1] at ho
          omega
      refine And.intro (by omega) (And.intro (fun c2 => ?_) (fun c2 => ?_))
      · exact zJ_le (nope (hon (by omega))) (And.intro rfl (And.intro rfl (And.intro rfl (And.intro rfl (And.intro rfl (And.intro rfl trivial)))))) rfl rfl
      · obtain ⟨to, hto⟩ : ∃ to : Nat, otherF (h.1 66) (h.1 67) w p = to := ⟨(otherF (h.1 66) (h.1 67) w p).toNat, by omega⟩
        have hon2 : ∀ p' m' y', wyS (h.1 66) (h.1 67) (tkR h σ) (goR h σ hi be) w p m y p' m' y' ↔ goR h σ hi be w m y ∧ (m' : Int) = m + tkR h σ w y ∧ y' = min (y + 1) 3 ∧ p' = to := by
          intro p' m' y'
          unfold otherF at hto
          unfold wyS
          constructor
          · rintro ⟨q1, q2, q3, q4⟩
            refine ⟨q1, q2, q3, ?_⟩
            rcases q4 with ⟨q4, q5⟩ | ⟨q4, q5⟩
            · rw [if_pos q4] at hto
              omega
            · rw [if_neg (by omega), if_pos q4] at hto
              omega
          · rintro ⟨q1, q2, q3, q4⟩
            refine ⟨q1, q2, q3, ?_⟩
            subst q4
            by_cases q5 : h.1 66 w = p
            · rw [if_pos q5] at hto
              exact Or.inl ⟨q5, hto⟩
            · rw [if_neg q5] at hto
              by_cases q6 : h.1 67 w = p
              · rw [if_pos q6] at hto
                exact Or.inr ⟨q6, hto⟩
              · rw [if_neg q6] at hto
                omega
        have hgo := c_X9_goes (d := d - 1) (by omega) g w m y σ P N hi be hRg.1 (by omega) a1 hm (by omega) a3 (by rw [e68]; exact a7 w (by omega)) (by rw [e53]; exact a8) hRg.2.2.2.2.2.2.2.2.2.1 (hRg.2.2.2.2.2.2.2.2.2.2.2 w (by omega)).1 (hRg.2.2.2.2.2.2.2.2.2.2.2 w (by omega)).2
        refine zcall_i (d' := d - 1) (by omega) hgo ?_
        rintro o g' ⟨rfl, hB⟩
        have hgr : goP (fsR g w) (lsR g w) (takeF (g.1 68 w) (g.1 53 (84 + σ)) y) hi (be w) m ↔ goR h σ hi be w m y := by rw [← s2]; exact Iff.rfl
        rw [hgr] at hB
        rcases hB with ⟨rfl, hg⟩ | ⟨rfl, hg⟩
        · refine And.intro (by decide) (And.intro (fun c3 => absurd c3 (by decide)) (fun _ => ?_))
          have htk := c_X9_takesOf (d := d - 1) g w σ y (by omega) a3 (by omega) (by rw [e68]; exact a7 w (by omega)) (by rw [e53]; exact a8)
          rw [← e27] at htk
          refine zcall_i (d' := d - 1) (by omega) htk ?_
          rintro o g' ⟨rfl, rfl⟩
          obtain ⟨t, ht⟩ : ∃ t : Nat, (m : Int) + tkR h σ w y = t := ⟨((m : Int) + tkR h σ w y).toNat, by omega⟩
          have ht' : (m : Int) + takeF (g.1 68 w) (g.1 53 (84 + σ)) y = t := by rw [e68, e53]; exact ht
          have t14 : t < 1440 := by have := hg.2.1; omega
          have hst := c_X9_stateOf (d := d - 1) g to t (min (y + 1) 3) (by omega) t14 (by omega)
          rw [← hto, ← ht'] at hst
          refine zcall_i (d' := d - 1) (by omega) hst ?_
          rintro o g' ⟨rfl, rfl⟩
          have hix := ixS_lt (p := to) (m := t) (y := min (y + 1) 3) (by omega) t14 (by omega)
          refine And.intro (by omega) (And.intro (by omega) (And.intro (Or.inr rfl) ?_))
          have eix : ((ixS to t (min (y + 1) 3) : Nat) : Int).toNat = ixS to t (min (y + 1) 3) := rfl
          rw [eix]
          have nx : zJ X 100 [some (sR 52), some (sI p), some (sI m), some (sI y), some (sI ((min (y + 1) 3 : Nat) : Int)), some (sI w)] [] (setI g 72 (ixS to t (min (y + 1) 3)) 1) := by
            refine zrun_sound t_X9_spread C E [40] 20 _ _ _ _ ?_
            refine zJ_le (ih (w + 1) (setI g 72 (ixS to t (min (y + 1) 3)) 1) (by omega) (fr_setI hf rfl) (fun p' m' y' c1 c2 c3 => ?_)) (And.intro rfl (And.intro rfl (And.intro rfl (And.intro rfl (And.intro rfl (And.intro rfl trivial)))))) rfl rfl
            rw [setI_at]
            by_cases e : p' = to ∧ m' = t ∧ y' = min (y + 1) 3
            · rw [if_pos ⟨rfl, by rw [e.1, e.2.1, e.2.2]⟩]
              exact Or.inl ⟨rfl, Or.inr (Or.inr ⟨w, by omega, (hon2 p' m' y').mpr ⟨hg, by omega, e.2.2, e.1⟩⟩)⟩
            · rw [if_neg (fun q => e ((ixS_inj c2 c3 t14 (by omega)).mp q.2))]
              rcases hb p' m' y' c1 c2 c3 with ⟨q1, q2⟩ | ⟨q1, q2⟩
              · refine Or.inl ⟨q1, ?_⟩
                rcases q2 with q2 | q2 | ⟨w', q3, q4⟩
                · exact Or.inl q2
                · exact Or.inr (Or.inl q2)
                · exact Or.inr (Or.inr ⟨w', by omega, q4⟩)
              · refine Or.inr ⟨q1, fun q3 => q2 ?_⟩
                rcases q3 with q3 | ⟨w', q3, q4⟩
                · exact Or.inl q3
                · by_cases ew : w' = w
                  · subst ew
                    have q5 := (hon2 p' m' y').mp q4
                    exact absurd ⟨q5.2.2.2, by omega, q5.2.2.1⟩ e
                  · exact Or.inr ⟨w', by omega, q4⟩
          exact zJ_le nx (And.intro rfl (And.intro rfl (And.intro rfl (And.intro rfl (And.intro rfl (And.intro rfl trivial)))))) rfl rfl
        · refine And.intro (by decide) (And.intro (fun _ => ?_) (fun c3 => absurd rfl c3))
          exact zJ_le (nope (fun p' m' y' q => hg q.1)) (And.intro rfl (And.intro rfl (And.intro rfl (And.intro rfl (And.intro rfl (And.intro rfl trivial)))))) rfl rfl
  have mid : ∀ g : zH, fr fr72 h g → (∀ p' m' y' : Nat, p' < 12 → m' < 1440 → y' < 4 → (g.1 72 (ixS p' m' y') = 1 ∧ (h.1 72 (ixS p' m' y') = 1 ∨ wtS (wtR h hi) p m y p' m' y')) ∨ (g.1 72 (ixS p' m' y') = h.1 72 (ixS p' m' y') ∧ ¬ wtS (wtR h hi) p m y p' m' y')) → zJ X 23 [some (sR 52), some (sI p), some (sI m), some (sI y)] [] g := by
    intro g hf hb
    have nx := loop N 0 g (by omega) hf (fun p' m' y' c1 c2 c3 => by
      rcases hb p' m' y' c1 c2 c3 with ⟨q1, q2⟩ | ⟨q1, q2⟩
      · refine Or.inl ⟨q1, ?_⟩
        rcases q2 with q2 | q2
        · exact Or.inl q2
        · exact Or.inr (Or.inl q2)
      · refine Or.inr ⟨q1, fun q3 => q2 ?_⟩
        rcases q3 with q3 | ⟨w', q3, -⟩
        · exact q3
        · omega)
    refine zrun_sound t_X9_spread C E [40] 40 _ _ _ _ ?_
    refine And.intro (by omega) (And.intro (by omega) (And.intro (fun c => ?_) (fun c => ?_)))
    · exact zJ_le nx (And.intro rfl (And.intro rfl (And.intro rfl (And.intro rfl (And.intro (congrArg (fun z => (some (sI z) : Option zV).getD (sI 0)) (by omega)) (And.intro rfl trivial)))))) rfl rfl
    · exact zJ_le nx (And.intro rfl (And.intro rfl (And.intro rfl (And.intro rfl (And.intro (congrArg (fun z => (some (sI z) : Option zV).getD (sI 0)) (by omega)) (And.intro rfl trivial)))))) rfl rfl
  refine zrun_sound t_X9_spread C E [23] 60 _ _ _ _ ?_
  refine zcall_i (d' := d - 1) (by omega) (c_X9_waits h p m σ P N hi be hL hp a2 hm a10) ?_
  rintro o g ⟨rfl, hB⟩
  rcases hB with ⟨rfl, hg⟩ | ⟨rfl, hg⟩
  · refine And.intro (by decide) (And.intro (fun c3 => absurd c3 (by decide)) (fun _ => ?_))
    have m14 : m + 1 < 1440 := by have := hg.2.1; omega
    have hst := c_X9_stateOf (d := d - 1) h p (m + 1) y (by omega) m14 hy
    refine zcall_i (d' := d - 1) (by omega) hst ?_
    rintro o g ⟨rfl, rfl⟩
    have hix := ixS_lt (p := p) (m := m + 1) (y := y) (by omega) m14 hy
    refine And.intro (by omega) (And.intro (by omega) (And.intro (Or.inr rfl) ?_))
    refine zJ_le (mid (setI h 72 (ixS p (m + 1) y) 1) (fr_setI (fr_rfl _ _) rfl) (fun p' m' y' c1 c2 c3 => ?_)) (And.intro rfl (And.intro rfl (And.intro rfl (And.intro rfl trivial)))) rfl rfl
    rw [setI_at]
    by_cases e : p' = p ∧ m' = m + 1 ∧ y' = y
    · rw [if_pos ⟨rfl, by rw [e.1, e.2.1, e.2.2]⟩]
      exact Or.inl ⟨rfl, Or.inr ⟨e.1, e.2.1, e.2.2, hg⟩⟩
    · rw [if_neg (fun q => e ((ixS_inj c2 c3 m14 hy).mp q.2))]
      exact Or.inr ⟨rfl, fun q => e ⟨q.1, q.2.1, q.2.2.1⟩⟩
  · refine And.intro (by decide) (And.intro (fun _ => ?_) (fun c3 => absurd rfl c3))
    refine zJ_le (mid h (fr_rfl _ _) (fun p' m' y' c1 c2 c3 => Or.inr ⟨rfl, fun q => hg ?_⟩)) (And.intro rfl (And.intro rfl (And.intro rfl (And.intro rfl trivial)))) rfl rfl
    exact q.2.2.2
