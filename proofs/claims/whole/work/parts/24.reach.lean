/-- reached at the start, or by one step from what is reached ahead of minute k -/
def RdU (S : Nat → Nat → Nat → Nat → Nat → Nat → Prop) (p0 m0 k p m y : Nat) : Prop := (p = p0 ∧ m = m0 ∧ y = 0) ∨ ∃ q n z, RdS S p0 m0 q n z ∧ n < k ∧ S q n z p m y
def Sok (S : Nat → Nat → Nat → Nat → Nat → Nat → Prop) (P : Nat) : Prop := ∀ p m y p' m' y', p < P → y < 4 → S p m y p' m' y' → m < m' ∧ m' < 1440 ∧ p' < P ∧ y' < 4
theorem RdS_in {S : Nat → Nat → Nat → Nat → Nat → Nat → Prop} {P p0 m0 p m y : Nat} (hS : Sok S P) (h0 : p0 < P) (h1 : m0 < 1440) (h : RdS S p0 m0 p m y) : p < P ∧ m0 ≤ m ∧ m < 1440 ∧ y < 4 := by
  refine h (fun p m y => p < P ∧ m0 ≤ m ∧ m < 1440 ∧ y < 4) ⟨h0, Nat.le_refl _, h1, by omega⟩ ?_
  intro p m y p' m' y' hr hs
  have := hS p m y p' m' y' hr.1 hr.2.2.2 hs
  exact ⟨this.2.2.1, by omega, this.2.1, this.2.2.2⟩
theorem RdU_iff {S : Nat → Nat → Nat → Nat → Nat → Nat → Prop} {P p0 m0 k p m y : Nat} (hS : Sok S P) (h0 : p0 < P) (h1 : m0 < 1440) (hk : m ≤ k) : RdU S p0 m0 k p m y ↔ RdS S p0 m0 p m y := by
  constructor
  · rintro (⟨rfl, rfl, rfl⟩ | ⟨q, n, z, a, b, c⟩)
    · exact RdS_0 S _ _
    · exact RdS_s a c
  · intro h
    rcases RdS_inv h with h | ⟨q, n, z, a, c⟩
    · exact Or.inl h
    · have hq := RdS_in hS h0 h1 a
      exact Or.inr ⟨q, n, z, a, by have := hS q n z p m y hq.1 hq.2.2.2 c; omega, c⟩
theorem RdU_s {S : Nat → Nat → Nat → Nat → Nat → Nat → Prop} {p0 m0 k p m y : Nat} : RdU S p0 m0 (k + 1) p m y ↔ RdU S p0 m0 k p m y ∨ ∃ q z, RdS S p0 m0 q k z ∧ S q k z p m y := by
  constructor
  · rintro (h | ⟨q, n, z, a, b, c⟩)
    · exact Or.inl (Or.inl h)
    · by_cases e : n = k
      · subst e; exact Or.inr ⟨q, z, a, c⟩
      · exact Or.inl (Or.inr ⟨q, n, z, a, by omega, c⟩)
  · rintro ((h | ⟨q, n, z, a, b, c⟩) | ⟨q, z, a, c⟩)
    · exact Or.inl h
    · exact Or.inr ⟨q, n, z, a, by omega, c⟩
    · exact Or.inr ⟨q, k, z, a, by omega, c⟩
def SC (h : zH) (σ N : Nat) : Nat → Nat → Nat → Nat → Nat → Nat → Prop := stS N (h.1 26) (h.1 27) (tkC h σ) (goC h σ) (wtC h)
theorem SC_ok {h : zH} {σ P N : Nat} (hS : SP h σ P N) : Sok (SC h σ N) P := by
  obtain ⟨hN, hN24, hP, hP12, hσ, hends, hlen, hhu, hrg, hrow, hsf, htk⟩ := hS
  intro p m y p' m' y' hp hy hs
  rcases hs with ⟨rfl, rfl, rfl, hw⟩ | ⟨w, hw, hg, hm, hy', he⟩
  · have := hw.1.1
    exact ⟨by omega, by omega, hp, hy⟩
  · have tb : 1 ≤ tkC h σ w y ∧ tkC h σ w y ≤ 387 := (takeF_b (hlen w hw) hhu (by omega)).2
    have e := hends w hw
    have := hg.2.1
    refine ⟨by omega, by omega, ?_, by omega⟩
    rcases he with ⟨-, he⟩ | ⟨-, he⟩ <;> omega
set_option maxHeartbeats 4000000 in
theorem c_X5_waiting {d : Nat} (hd : 1 ≤ d) (h : zH) (σ P N m : Nat) (hS : SP h σ P N) (hm : m < 1439) :
    zC d k_X5_waiting [sR 4, sI m] h (fun o g => h = g ∧ ∃ r : Int64, o = some (sL r) ∧ ∀ q y : Nat, q < 12 → y < 4 → (lb r (4 * q + y) = true ↔ q < P ∧ wtC h q m y)) := by
  obtain ⟨hN, hN24, hP, hP12, hσ, hends, hlen, hhu, hrg, hrow, hsf, htk⟩ := hS
  have em : ((m : Int)).toNat = m := rfl
  have em1 : ((m : Int) + 1).toNat = m + 1 := by omega
  have r1 := hrow m (by omega)
  have r2 := hrow (m + 1) (by omega)
  refine zC_of (by decide +kernel) (Nat.le_of_ble_eq_true rfl) (fun X C E => ?_)
  generalize hhi : max (h.1 34 m) (h.1 34 (m + 1)) = hh
  have loop : ∀ (f p : Nat) (acc : Int64), p + f = P → (∀ q y : Nat, q < 12 → y < 4 → (lb acc (4 * q + y) = true ↔ q < p ∧ hh ≤ h.1 25 q)) → zJ X 29 [some (sR 4), some (sI m), some (sI hh), some (sL acc), none, some (sI p)] [] h := by
    intro f
    induction f with
    | zero =>
      intro p acc hp hacc
      refine zrun_sound t_X5_waiting C E [] 60 _ _ _ _ ?_
      refine And.intro (by omega) (And.intro (by omega) (And.intro (fun c => ?_) (fun c => absurd c (by omega))))
      refine And.intro rfl ⟨_, rfl, fun q y hq hy => ?_⟩
      rw [lb_and, Bool.and_eq_true, hacc q y hq hy]
      have ep : p = P := by omega
      subst ep
      constructor
      · rintro ⟨⟨s1, s2⟩, s3⟩
        exact ⟨s1, ⟨hm, by omega, by omega⟩, s3⟩
      · rintro ⟨s1, ⟨-, s2, s3⟩, s4⟩
        exact ⟨⟨s1, by omega⟩, s4⟩
    | succ f ih =>
      intro p acc hp hacc
      have ep : ((p : Int)).toNat = p := rfl
      have hs := hsf p (by omega)
      refine zrun_sound t_X5_waiting C E [29] 80 _ _ _ _ ?_
      refine And.intro (by omega) (And.intro (by omega) (And.intro (fun c => absurd c (by omega)) (fun c => ?_)))
      refine And.intro (by omega) (And.intro (by omega) ?_)
      rw [ep]
      refine And.intro (by omega) (And.intro hs (And.intro (fun c2 => ?_) (fun c2 => ?_)))
      · refine zJ_le (ih (p + 1) acc (by omega) (fun q y hq hy => ?_)) (And.intro rfl (And.intro rfl (And.intro rfl (And.intro rfl (And.intro rfl trivial))))) rfl rfl
        rw [hacc q y hq hy]
        constructor
        · rintro ⟨s1, s2⟩
          exact ⟨by omega, s2⟩
        · rintro ⟨s1, s2⟩
          refine ⟨?_, s2⟩
          refine Classical.byContradiction (fun s3 => ?_)
          have : q = p := by omega
          subst this
          omega
      · refine zJ_le (ih (p + 1) (acc ||| shl64 15 (4 * (p : Int))) (by omega) (fun q y hq hy => ?_)) (And.intro rfl (And.intro rfl (And.intro rfl (And.intro rfl (And.intro rfl trivial))))) rfl rfl
        rw [lb_or, Bool.or_eq_true, hacc q y hq hy, lb_place (by omega) (by omega) _ (by omega), Bool.and_eq_true, decide_eq_true_eq, decide_eq_true_eq, show (4 * (p : Int)).toNat = 4 * p by omega]
        constructor
        · rintro (⟨s1, s2⟩ | ⟨s1, s2⟩)
          · exact ⟨by omega, s2⟩
          · have : q = p := by omega
            subst this
            exact ⟨by omega, by omega⟩
        · rintro ⟨s1, s2⟩
          by_cases e : q = p
          · exact Or.inr (by omega)
          · exact Or.inl ⟨by omega, s2⟩
  refine zrun_sound t_X5_waiting C E [29] 80 _ _ _ _ ?_
  refine And.intro (by omega) (And.intro (by omega) ?_)
  refine And.intro (by omega) (And.intro (by omega) ?_)
  rw [em, em1]
  refine And.intro (by omega) (And.intro (by omega) (And.intro (by omega) ?_))
  rw [hhi]
  refine zJ_le (loop P 0 0 (by omega) (fun q y hq hy => ?_)) (And.intro rfl (And.intro rfl (And.intro rfl (And.intro rfl (And.intro rfl trivial))))) rfl rfl
  rw [lb_0]
  exact ⟨fun q => (by cases q), fun q => absurd q.1 (by omega)⟩
