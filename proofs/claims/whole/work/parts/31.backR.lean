theorem wyS_other {one other : Nat → Int} {tk : Nat → Nat → Int} {go : Nat → Nat → Nat → Prop} {w p m y to : Nat} (hne : one w ≠ other w) (hto : otherF one other w p = to) (p' m' y' : Nat) : wyS one other tk go w p m y p' m' y' ↔ go w m y ∧ (m' : Int) = m + tk w y ∧ y' = min (y + 1) 3 ∧ p' = to := by
  unfold otherF at hto
  unfold wyS
  constructor
  · rintro ⟨q1, q2, q3, q4⟩
    refine ⟨q1, q2, q3, ?_⟩
    rcases q4 with ⟨q4, q5⟩ | ⟨q4, q5⟩
    · rw [if_pos q4] at hto
      omega
    · rw [if_neg (by omega), if_pos q4] at hto
      omega
  · rintro ⟨q1, q2, q3, q4⟩
    refine ⟨q1, q2, q3, ?_⟩
    subst q4
    by_cases q5 : one w = p
    · rw [if_pos q5] at hto
      exact Or.inl ⟨q5, hto⟩
    · rw [if_neg q5] at hto
      by_cases q6 : other w = p
      · rw [if_pos q6] at hto
        exact Or.inr ⟨q6, hto⟩
      · rw [if_neg q6] at hto
        omega
theorem wyS_no {one other : Nat → Int} {tk : Nat → Nat → Int} {go : Nat → Nat → Nat → Prop} {w p m y : Nat} (h1 : 0 ≤ one w) (h2 : 0 ≤ other w) (hne : one w ≠ other w) (hto : otherF one other w p = -1) (p' m' y' : Nat) : ¬ wyS one other tk go w p m y p' m' y' := by
  intro hs
  unfold otherF at hto
  rcases hs.2.2.2 with ⟨q1, q2⟩ | ⟨q1, q2⟩
  · rw [if_pos q1] at hto
    omega
  · rw [if_neg (by omega), if_pos q1] at hto
    omega
set_option maxHeartbeats 8000000 in
theorem c_X9_comesFrom {d : Nat} (hd : 3 ≤ d) (h : zH) (σ P N p m y dk : Nat) (hi be : Nat → Int) (φ : Nat → Nat → Nat → Prop) (hR : RP h σ P N hi be) (hp : p < P) (hm : m ≤ dk) (hy : y < 4) (hdk : h.1 52 26 = dk) (hdk4 : dk < 1440) (hb : ∀ p' m' y' : Nat, p' < P → m < m' → m' ≤ dk → y' < 4 → (h.1 72 (ixS p' m' y') = 1 ∧ φ p' m' y') ∨ (h.1 72 (ixS p' m' y') = 0 ∧ ¬ φ p' m' y')) :
    zC d k_X9_comesFrom [sR 52, sI p, sI m, sI y] h (fun o g => h = g ∧ isB o (∃ p' m' y', SR h σ N hi be p m y p' m' y' ∧ m' ≤ dk ∧ φ p' m' y')) := by
  have hok := SR_ok hR
  have hR2 := hR
  obtain ⟨hL, a1, a2, a3, a4, a5, a6, a7, a8, a9, a10, a11⟩ := hR
  refine zC_of (by decide +kernel) (Nat.le_of_ble_eq_true rfl) (fun X C E => ?_)
  have loop : ∀ (f w : Nat), w + f = N → (¬ ∃ p' m' y', wtS (wtR h hi) p m y p' m' y' ∧ m' ≤ dk ∧ φ p' m' y') → (∀ w' p' m' y', w' < w → wyS (h.1 66) (h.1 67) (tkR h σ) (goR h σ hi be) w' p m y p' m' y' → m' ≤ dk → ¬ φ p' m' y') →
      zJ X 52 [some (sR 52), some (sI p), some (sI m), some (sI y), some (sI ((min (y + 1) 3 : Nat) : Int)), some (sI w)] [] h := by
    intro f
    induction f with
    | zero =>
      intro w hw h1 h2
      refine zrun_sound t_X9_comesFrom C E [] 60 _ _ _ _ ?_
      refine And.intro (by omega) (And.intro (by omega) (And.intro (fun c => ?_) (fun c => absurd c (by omega))))
      refine And.intro (Or.inl rfl) (And.intro rfl (Or.inr ⟨rfl, ?_⟩))
      rintro ⟨p', m', y', c1, c2, c3⟩
      rcases c1 with c1 | ⟨w', c0, c1⟩
      · exact h1 ⟨p', m', y', c1, c2, c3⟩
      · exact h2 w' p' m' y' (by omega) c1 c2 c3
    | succ f ih =>
      intro w hw h1 h2
      have ends := a6 w (by omega)
      have tb : 1 ≤ tkR h σ w y ∧ tkR h σ w y ≤ 387 := (takeF_b (a7 w (by omega)) a8 (by omega)).2
      have e27 : h.1 52 27 = σ := hL.1
      have nope : (∀ p' m' y', wyS (h.1 66) (h.1 67) (tkR h σ) (goR h σ hi be) w p m y p' m' y' → m' ≤ dk → ¬ φ p' m' y') → zJ X 129 [some (sR 52), some (sI p), some (sI m), some (sI y), some (sI ((min (y + 1) 3 : Nat) : Int)), some (sI w)] [] h := by
        intro hno
        refine zrun_sound t_X9_comesFrom C E [52] 20 _ _ _ _ ?_
        refine zJ_le (ih (w + 1) (by omega) h1 (fun w' p' m' y' c1 c2 c3 => ?_)) (And.intro rfl (And.intro rfl (And.intro rfl (And.intro rfl (And.intro rfl (And.intro rfl trivial)))))) rfl rfl
        by_cases ew : w' = w
        · subst ew; exact hno p' m' y' c2 c3
        · exact h2 w' p' m' y' (by omega) c2 c3
      have hoth : otherF (h.1 66) (h.1 67) w p = -1 ∨ (0 ≤ otherF (h.1 66) (h.1 67) w p ∧ otherF (h.1 66) (h.1 67) w p < P) := by
        unfold otherF
        split
        · exact Or.inr ends.2.1
        · split
          · exact Or.inr ends.1
          · exact Or.inl rfl
      have htk := c_X9_takesOf (d := d - 1) h w σ y (by omega) a3 (by omega) (a7 w (by omega)) a8
      rw [← e27] at htk
      refine zrun_sound t_X9_comesFrom C E [129, 52] 140 _ _ _ _ ?_
      refine And.intro (by omega) (And.intro (by omega) (And.intro (fun c => absurd c (by omega)) (fun c => ?_)))
      refine zcall_i (d' := d - 1) (by omega) (c_X9_otherEnd h w p (by omega) (by omega) (by omega) (by omega)) ?_
      rintro o g' ⟨rfl, rfl⟩
      refine zcall_i (d' := d - 1) (by omega) htk ?_
      rintro o g' ⟨rfl, rfl⟩
      obtain ⟨t, ht⟩ : ∃ t : Nat, (m : Int) + tkR h σ w y = t := ⟨((m : Int) + tkR h σ w y).toNat, by omega⟩
      have ht' : (m : Int) + takeF (h.1 68 w) (h.1 53 (84 + σ)) y = t := ht
      refine And.intro (by omega) (And.intro (fun c2 => ?_) (fun c2 => ?_))
      · exact zJ_le (nope (fun p' m' y' q => absurd q (wyS_no ends.1.1 ends.2.1.1 ends.2.2 (by omega) p' m' y'))) (And.intro rfl (And.intro rfl (And.intro rfl (And.intro rfl (And.intro rfl (And.intro rfl trivial)))))) rfl rfl
      · obtain ⟨to, hto⟩ : ∃ to : Nat, otherF (h.1 66) (h.1 67) w p = to := ⟨(otherF (h.1 66) (h.1 67) w p).toNat, by omega⟩
        have hon2 := wyS_other (tk := tkR h σ) (go := goR h σ hi be) (m := m) (y := y) ends.2.2 hto
        refine And.intro (by omega) (And.intro (by omega) (And.intro (fun c3 => ?_) (fun c3 => ?_)))
        · refine zJ_le (nope (fun p' m' y' q q2 => ?_)) (And.intro rfl (And.intro rfl (And.intro rfl (And.intro rfl (And.intro rfl (And.intro rfl trivial)))))) rfl rfl
          have := ((hon2 p' m' y').mp q).2.1
          omega
        · have hgo := c_X9_goes (d := d - 1) (by omega) h w m y σ P N hi be hL (by omega) a1 (by omega) (by omega) a3 (a7 w (by omega)) a8 a9 (a11 w (by omega)).1 (a11 w (by omega)).2
          refine zcall_i (d' := d - 1) (by omega) hgo ?_
          rintro o g' ⟨rfl, hB⟩
          rcases hB with ⟨rfl, hg⟩ | ⟨rfl, hg⟩
          · refine And.intro (by decide) (And.intro (fun c4 => absurd c4 (by decide)) (fun _ => ?_))
            have hst := c_X9_stateOf (d := d - 1) h to t (min (y + 1) 3) (by omega) (by omega) (by omega)
            rw [← hto, ← ht'] at hst
            refine zcall_i (d' := d - 1) (by omega) hst ?_
            rintro o g' ⟨rfl, rfl⟩
            have hix := ixS_lt (p := to) (m := t) (y := min (y + 1) 3) (by omega) (by omega) (by omega)
            refine And.intro (by omega) (And.intro (by omega) ?_)
            rw [show ((ixS to t (min (y + 1) 3) : Nat) : Int).toNat = ixS to t (min (y + 1) 3) from rfl]
            rcases hb to t (min (y + 1) 3) (by omega) (by omega) (by omega) (by omega) with ⟨v, hr⟩ | ⟨v, hr⟩
            · rw [v]
              refine And.intro (by decide) (And.intro (fun c4 => absurd c4 (by decide)) (fun _ => ?_))
              exact And.intro (Or.inr rfl) (And.intro rfl (Or.inl ⟨rfl, to, t, min (y + 1) 3, Or.inr ⟨w, by omega, (hon2 _ _ _).mpr ⟨hg, ht.symm, rfl, rfl⟩⟩, by omega, hr⟩))
            · rw [v]
              refine And.intro (by decide) (And.intro (fun _ => ?_) (fun c4 => absurd rfl c4))
              refine zJ_le (nope (fun p' m' y' q q2 q3 => ?_)) (And.intro rfl (And.intro rfl (And.intro rfl (And.intro rfl (And.intro rfl (And.intro rfl trivial)))))) rfl rfl
              obtain ⟨-, s2, s3, s4⟩ := (hon2 p' m' y').mp q
              have : m' = t := by omega
              subst this; subst s3; subst s4
              exact hr q3
          · refine And.intro (by decide) (And.intro (fun _ => ?_) (fun c4 => absurd rfl c4))
            exact zJ_le (nope (fun p' m' y' q => absurd ((hon2 p' m' y').mp q).1 hg)) (And.intro rfl (And.intro rfl (And.intro rfl (And.intro rfl (And.intro rfl (And.intro rfl trivial)))))) rfl rfl
  have mid : (¬ ∃ p' m' y', wtS (wtR h hi) p m y p' m' y' ∧ m' ≤ dk ∧ φ p' m' y') → zJ X 35 [some (sR 52), some (sI p), some (sI m), some (sI y)] [] h := by
    intro hno
    have nx := loop N 0 (by omega) hno (fun w' p' m' y' c1 => absurd c1 (by omega))
    refine zrun_sound t_X9_comesFrom C E [52] 40 _ _ _ _ ?_
    refine And.intro (by omega) (And.intro (by omega) (And.intro (fun c => ?_) (fun c => ?_)))
    · exact zJ_le nx (And.intro rfl (And.intro rfl (And.intro rfl (And.intro rfl (And.intro (congrArg (fun z => (some (sI z) : Option zV).getD (sI 0)) (by omega)) (And.intro rfl trivial)))))) rfl rfl
    · exact zJ_le nx (And.intro rfl (And.intro rfl (And.intro rfl (And.intro rfl (And.intro (congrArg (fun z => (some (sI z) : Option zV).getD (sI 0)) (by omega)) (And.intro rfl trivial)))))) rfl rfl
  refine zrun_sound t_X9_comesFrom C E [35] 80 _ _ _ _ ?_
  refine And.intro (by omega) (And.intro (by omega) (And.intro (fun c => ?_) (fun c => ?_)))
  · exact zJ_le (mid (fun ⟨p', m', y', ⟨_, c4, _, _⟩, c7, _⟩ => by omega)) (And.intro rfl (And.intro rfl (And.intro rfl (And.intro rfl trivial)))) rfl rfl
  · refine zcall_i (d' := d - 1) (by omega) (c_X9_waits h p m σ P N hi be hL hp a2 (by omega) a10) ?_
    rintro o g' ⟨rfl, hB⟩
    rcases hB with ⟨rfl, hg⟩ | ⟨rfl, hg⟩
    · refine And.intro (by decide) (And.intro (fun c4 => absurd c4 (by decide)) (fun _ => ?_))
      have hst := c_X9_stateOf (d := d - 1) h p (m + 1) y (by omega) (by omega) hy
      refine zcall_i (d' := d - 1) (by omega) hst ?_
      rintro o g' ⟨rfl, rfl⟩
      have hix := ixS_lt (p := p) (m := m + 1) (y := y) (by omega) (by omega) hy
      refine And.intro (by omega) (And.intro (by omega) ?_)
      rw [show ((ixS p (m + 1) y : Nat) : Int).toNat = ixS p (m + 1) y from rfl]
      rcases hb p (m + 1) y hp (by omega) (by omega) hy with ⟨v, hr⟩ | ⟨v, hr⟩
      · rw [v]
        refine And.intro (by decide) (And.intro (fun c4 => absurd c4 (by decide)) (fun _ => ?_))
        exact And.intro (Or.inr rfl) (And.intro rfl (Or.inl ⟨rfl, p, m + 1, y, Or.inl ⟨rfl, rfl, rfl, hg⟩, by omega, hr⟩))
      · rw [v]
        refine And.intro (by decide) (And.intro (fun _ => ?_) (fun c4 => absurd rfl c4))
        refine zJ_le (mid ?_) (And.intro rfl (And.intro rfl (And.intro rfl (And.intro rfl trivial)))) rfl rfl
        rintro ⟨p', m', y', ⟨c3, c4, c5, c6⟩, c7, c8⟩
        subst c3; subst c4; subst c5
        exact hr c8
    · refine And.intro (by decide) (And.intro (fun _ => ?_) (fun c4 => absurd rfl c4))
      exact zJ_le (mid (fun ⟨p', m', y', ⟨_, _, _, c6⟩, _, _⟩ => hg c6)) (And.intro rfl (And.intro rfl (And.intro rfl (And.intro rfl trivial)))) rfl rfl
