/-! ===== back from the end ===== -/
def BkS (S : Nat → Nat → Nat → Nat → Nat → Nat → Prop) (to dk p m y : Nat) : Prop := ∀ R : Nat → Nat → Nat → Prop, (∀ m y, m ≤ dk → R to m y) → (∀ p m y p' m' y', S p m y p' m' y' → m' ≤ dk → R p' m' y' → R p m y) → R p m y
theorem BkS_0 {S : Nat → Nat → Nat → Nat → Nat → Nat → Prop} {to dk m y : Nat} (h : m ≤ dk) : BkS S to dk to m y := fun _ a _ => a m y h
theorem BkS_s {S : Nat → Nat → Nat → Nat → Nat → Nat → Prop} {to dk p m y p' m' y' : Nat} (hs : S p m y p' m' y') (hm : m' ≤ dk) (h : BkS S to dk p' m' y') : BkS S to dk p m y := fun R a b => b p m y p' m' y' hs hm (h R a b)
theorem BkS_inv {S : Nat → Nat → Nat → Nat → Nat → Nat → Prop} {to dk p m y : Nat} : BkS S to dk p m y ↔ (p = to ∧ m ≤ dk) ∨ ∃ p' m' y', S p m y p' m' y' ∧ m' ≤ dk ∧ BkS S to dk p' m' y' := by
  constructor
  · intro h
    refine (h (fun p m y => BkS S to dk p m y ∧ ((p = to ∧ m ≤ dk) ∨ ∃ p' m' y', S p m y p' m' y' ∧ m' ≤ dk ∧ BkS S to dk p' m' y')) (fun m y hm => ⟨BkS_0 hm, Or.inl ⟨rfl, hm⟩⟩) ?_).2
    intro p m y p' m' y' hs hm hr
    exact ⟨BkS_s hs hm hr.1, Or.inr ⟨p', m', y', hs, hm, hr.1⟩⟩
  · rintro (⟨rfl, hm⟩ | ⟨p', m', y', hs, hm, hr⟩)
    · exact BkS_0 hm
    · exact BkS_s hs hm hr
/-- the last minute from which it can be done -/
def lastR (S : Nat → Nat → Nat → Nat → Nat → Nat → Prop) (fr0 to dn dk : Nat) (r : Int) : Prop := (r = -2 ∧ ∀ m : Nat, dn ≤ m → m ≤ dk → ¬ BkS S to dk fr0 m 0) ∨ (∃ m : Nat, r = m ∧ dn ≤ m ∧ m ≤ dk ∧ BkS S to dk fr0 m 0 ∧ ∀ m' : Nat, m < m' → m' ≤ dk → ¬ BkS S to dk fr0 m' 0)
theorem lastR_u {S : Nat → Nat → Nat → Nat → Nat → Nat → Prop} {f to dn dk : Nat} {r r' : Int} (a : lastR S f to dn dk r) (b : lastR S f to dn dk r') : r = r' := by
  rcases a with ⟨rfl, a⟩ | ⟨m, rfl, a1, a2, a3, a4⟩
  · rcases b with ⟨rfl, -⟩ | ⟨m', rfl, b1, b2, b3, -⟩
    · rfl
    · exact absurd b3 (a m' b1 b2)
  · rcases b with ⟨rfl, b⟩ | ⟨m', rfl, b1, b2, b3, b4⟩
    · exact absurd a3 (b m a1 a2)
    · rcases Nat.lt_trichotomy m m' with q | q | q
      · exact absurd b3 (a4 m' q b2)
      · rw [q]
      · exact absurd a3 (b4 m q a2)
def FAd (row : Nat → Int) (b : Int) (m dk A : Nat) : Prop := m ≤ A ∧ A ≤ dk + 1 ∧ (∀ j : Nat, m ≤ j → j < A → row j ≤ b) ∧ (A ≤ dk → b < row A)
theorem FAd_go {h : zH} {σ w m y dk A : Nat} (hf : FAd (h.1 34) (h.1 29 w) m dk A) (hdk : dk < 1440) (htk : 1 ≤ tkC h σ w y) (hh : h.1 30 w ≤ m ∧ (m : Int) ≤ h.1 31 w) : (goC h σ w m y ∧ (m : Int) + tkC h σ w y ≤ dk) ↔ (m : Int) + tkC h σ w y < A := by
  obtain ⟨f1, f2, f3, f4⟩ := hf
  unfold goC goP
  constructor
  · rintro ⟨⟨-, g2, g3⟩, g4⟩
    refine Classical.byContradiction (fun q => ?_)
    by_cases hr : A ≤ dk
    · have a := g3 A f1 (by omega)
      have b := f4 hr
      omega
    · omega
  · intro q
    exact ⟨⟨hh, by omega, fun j a b => f3 j a (by omega)⟩, by omega⟩
theorem lb_sh1 (x : Int64) {k : Int} (h0 : 0 ≤ k) (h1 : k < 64) (j : Nat) (hj : j < 64) : lb (shl64 (x &&& 1) k) j = (decide (j = k.toNat) && lb x 0) := by
  rw [lb_shl _ h0 h1 j hj]
  by_cases c : k.toNat ≤ j
  · rw [lb_and, lb_1 _ (by omega)]
    by_cases e : j = k.toNat
    · subst e
      simp
    · have : j - k.toNat ≠ 0 := by omega
      simp [e, this]
  · have : j ≠ k.toNat := by omega
    simp [c, this]
set_option maxHeartbeats 8000000 in
theorem c_X5_goodToLeave {d : Nat} (hd : 2 ≤ d) (h : zH) (σ P N m w dk A : Nat) (hS : SP h σ P N) (hm : m ≤ dk) (hdk : dk < 1440) (hw : w < N) (hA : h.1 38 w = A) (hab : FAd (h.1 34) (h.1 29 w) (m + 1) dk A) :
    zC d k_X5_goodToLeave [sR 4, sI m, sI w] h (fun o g => fr (fun c i => c == 38 && i == w) h g ∧ (∃ A' : Nat, g.1 38 w = A' ∧ FAd (h.1 34) (h.1 29 w) m dk A') ∧ ∃ r : Int64, o = some (sL r) ∧ ∀ p y : Nat, p < 12 → y < 4 → (lb r (4 * p + y) = true ↔ ∃ p' m' y', wyS (h.1 26) (h.1 27) (tkC h σ) (goC h σ) w p m y p' m' y' ∧ m' ≤ dk ∧ lb (h.2 35 m') (4 * p' + y') = true)) := by
  have hS2 := hS
  obtain ⟨hN, hN24, hP, hP12, hσ, hends, hlen, hhu, hrg, hrow, hsf, htk⟩ := hS
  obtain ⟨he1, he2, hne⟩ := hends w hw
  obtain ⟨o1, ho1⟩ : ∃ o1 : Nat, h.1 26 w = o1 := ⟨(h.1 26 w).toNat, by omega⟩
  obtain ⟨o2, ho2⟩ : ∃ o2 : Nat, h.1 27 w = o2 := ⟨(h.1 27 w).toNat, by omega⟩
  have ew : ((w : Int)).toNat = w := rfl
  have em : ((m : Int)).toNat = m := rfl
  have tkb : ∀ y : Nat, y < 4 → 1 ≤ tkC h σ w y ∧ tkC h σ w y ≤ 387 := fun y hy => (takeF_b (hlen w hw) hhu (by omega)).2
  have tku : ∀ y z : Nat, y ≤ z → tkC h σ w y ≤ tkC h σ w z := fun y z hyz => takeF_up (hlen w hw).1 (by omega)
  obtain ⟨r29, r30, r31⟩ := hrg w hw
  have rm := hrow m (by omega)
  refine zC_of (by decide +kernel) (Nat.le_of_ble_eq_true rfl) (fun X C E => ?_)
  have loop : ∀ (f y : Nat) (g : zH) (A : Nat) (acc : Int64), y + f = 4 → fr (fun c i => c == 38 && i == w) h g → g.1 38 w = A → FAd (h.1 34) (h.1 29 w) m dk A → (h.1 30 w ≤ m ∧ (m : Int) ≤ h.1 31 w) →
      (∀ p y' : Nat, p < 12 → y' < 4 → (lb acc (4 * p + y') = true ↔ y' < y ∧ ∃ p' m' y'', wyS (h.1 26) (h.1 27) (tkC h σ) (goC h σ) w p m y' p' m' y'' ∧ m' ≤ dk ∧ lb (h.2 35 m') (4 * p' + y'') = true)) →
      zJ X 87 [some (sR 4), some (sI m), some (sI w), some (sI (4 * (o1 : Int))), some (sI (4 * (o2 : Int))), some (sL acc), none, some (sI y)] [] g := by
    intro f
    induction f with
    | zero =>
      intro y g A acc hy hf hA hfa hh hb
      refine zrun_sound t_X5_goodToLeave C E [] 60 _ _ _ _ ?_
      refine And.intro (by omega) (And.intro (by omega) (And.intro (fun c => ?_) (fun c => absurd (show (3 : Int) < y by omega) c)))
      refine And.intro hf (And.intro ⟨A, hA, hfa⟩ ⟨acc, rfl, fun p y' a b => ?_⟩)
      rw [hb p y' a b]
      exact ⟨fun q => q.2, fun q => ⟨by omega, q⟩⟩
    | succ f ih =>
      intro y g A acc hy hf hA hfa hh hb
      have ei : (4 * (w : Int) + y).toNat = 4 * w + y := by omega
      have e37 : g.1 37 (4 * w + y) = tkC h σ w y := by rw [(hf 37 _ rfl).1, htk w y hw (by omega)]; rfl
      have tb := tkb y (by omega)
      have hgo := fun z (hz : z < 4) => FAd_go (σ := σ) (y := z) hfa hdk (tkb z hz).1 hh
      obtain ⟨t, ht⟩ : ∃ t : Nat, (m : Int) + tkC h σ w y = t := ⟨((m : Int) + tkC h σ w y).toNat, by omega⟩
      have et : ((t : Int)).toNat = t := rfl
      have hA2 := hfa.2.1
      refine zrun_sound t_X5_goodToLeave C E [87] 120 _ _ _ _ ?_
      refine And.intro (by omega) (And.intro (by omega) (And.intro (fun c => absurd c (by omega)) (fun c => ?_)))
      refine And.intro (by omega) (And.intro (by omega) ?_)
      rw [ei, e37]
      refine And.intro (by omega) (And.intro (by omega) ?_)
      rw [ew, hA, ht]
      refine And.intro (by omega) (And.intro (by omega) (And.intro (fun c2 => ?_) (fun c2 => ?_)))
      · have hgy := (hgo y (by omega)).mpr (by omega)
        have hmin : (min ((y : Int) + 1) 3) = ((min (y + 1) 3 : Nat) : Int) := by omega
        have f35 : g.2 35 t = h.2 35 t := (hf 35 t rfl).2
        refine And.intro (by omega) (And.intro (by omega) ?_)
        refine And.intro (by omega) (And.intro (by omega) (And.intro (by omega) ?_))
        rw [et, f35, hmin]
        generalize hz : min (y + 1) 3 = z
        have hz3 : z ≤ 3 := by omega
        refine zJ_le (ih (y + 1) g A _ (by omega) hf hA hfa hh (fun p y' a b => ?_)) (And.intro rfl (And.intro rfl (And.intro rfl (And.intro rfl (And.intro rfl (And.intro rfl (And.intro rfl trivial))))))) rfl rfl
        rw [lb_or, lb_or, lb_sh1 _ (by omega) (by omega) _ (by omega), lb_sh1 _ (by omega) (by omega) _ (by omega), lb_ushr _ (by omega) (by omega), lb_ushr _ (by omega) (by omega), lb_ushr _ (by omega) (by omega), lb_ushr _ (by omega) (by omega)]
        have v1 : (4 * (o1 : Int) + (y : Int)).toNat = 4 * o1 + y := by omega
        have v2 : (4 * (o2 : Int) + (y : Int)).toNat = 4 * o2 + y := by omega
        have v3 : ((z : Nat) : Int).toNat + ((4 * (o2 : Int)).toNat + 0) = 4 * o2 + z := by omega
        have v4 : ((z : Nat) : Int).toNat + ((4 * (o1 : Int)).toNat + 0) = 4 * o1 + z := by omega
        rw [v1, v2, v3, v4]
        simp only [Bool.or_eq_true, Bool.and_eq_true, decide_eq_true_eq, hb p y' a b]
        have hyp : ∀ p1, (4 * p + y' = 4 * p1 + y) ↔ (p = p1 ∧ y' = y) := fun p1 => by omega
        rw [hyp o1, hyp o2]
        have stp : (∃ p' m' y'', wyS (h.1 26) (h.1 27) (tkC h σ) (goC h σ) w p m y p' m' y'' ∧ m' ≤ dk ∧ lb (h.2 35 m') (4 * p' + y'') = true) ↔ (p = o1 ∧ lb (h.2 35 t) (4 * o2 + z) = true) ∨ (p = o2 ∧ lb (h.2 35 t) (4 * o1 + z) = true) := by
          constructor
          · rintro ⟨p', m', y'', ⟨s1, s2, s3, s4⟩, s5, s6⟩
            have e1 : m' = t := by omega
            have e2 : y'' = z := by omega
            subst e1; subst e2
            rcases s4 with ⟨s4, s7⟩ | ⟨s4, s7⟩
            · have e3 : p' = o2 := by omega
              subst e3
              exact Or.inl ⟨by omega, s6⟩
            · have e3 : p' = o1 := by omega
              subst e3
              exact Or.inr ⟨by omega, s6⟩
          · rintro (⟨s1, s2⟩ | ⟨s1, s2⟩)
            · subst s1
              exact ⟨o2, t, z, ⟨hgy.1, ht.symm, hz.symm, Or.inl ⟨ho1, ho2⟩⟩, by omega, s2⟩
            · subst s1
              exact ⟨o1, t, z, ⟨hgy.1, ht.symm, hz.symm, Or.inr ⟨ho2, ho1⟩⟩, by omega, s2⟩
        constructor
        · rintro ((⟨s1, s2⟩ | ⟨⟨s1, s2⟩, s3⟩) | ⟨⟨s1, s2⟩, s3⟩)
          · exact ⟨by omega, s2⟩
          · rw [s2]
            exact ⟨by omega, stp.mpr (Or.inl ⟨s1, s3⟩)⟩
          · rw [s2]
            exact ⟨by omega, stp.mpr (Or.inr ⟨s1, s3⟩)⟩
        · rintro ⟨s1, s2⟩
          by_cases e : y' = y
          · rw [e] at s2
            rcases stp.mp s2 with ⟨s3, s4⟩ | ⟨s3, s4⟩
            · exact Or.inl (Or.inr ⟨⟨s3, e⟩, s4⟩)
            · exact Or.inr ⟨⟨s3, e⟩, s4⟩
          · exact Or.inl (Or.inl ⟨by omega, s2⟩)
      · refine And.intro hf (And.intro ⟨A, hA, hfa⟩ ⟨acc, rfl, fun p y' a b => ?_⟩)
        rw [hb p y' a b]
        constructor
        · exact fun q => q.2
        · rintro ⟨p', m', y'', s1, s2, s3⟩
          refine ⟨?_, p', m', y'', s1, s2, s3⟩
          refine Classical.byContradiction (fun q => ?_)
          have q1 := (hgo y' b).mp ⟨s1.1, by have := s1.2.1; omega⟩
          have q2 := tku y y' (by omega)
          omega
  have rest : ∀ (g : zH) (A : Nat), fr (fun c i => c == 38 && i == w) h g → g.1 38 w = A → FAd (h.1 34) (h.1 29 w) m dk A → zJ X 28 [some (sR 4), some (sI m), some (sI w)] [] g := by
    intro g A hf hA hfa
    have f26 := (hf 26 w rfl).1
    have f27 := (hf 27 w rfl).1
    have f30 := (hf 30 w rfl).1
    have f31 := (hf 31 w rfl).1
    have none_b : ¬ (h.1 30 w ≤ m ∧ (m : Int) ≤ h.1 31 w) → ∀ p y : Nat, p < 12 → y < 4 → (lb 0 (4 * p + y) = true ↔ ∃ p' m' y', wyS (h.1 26) (h.1 27) (tkC h σ) (goC h σ) w p m y p' m' y' ∧ m' ≤ dk ∧ lb (h.2 35 m') (4 * p' + y') = true) := by
      intro hc p y _ _
      rw [lb_0]
      exact ⟨fun q => (by cases q), fun ⟨_, _, _, s1, _⟩ => absurd s1.1.1 hc⟩
    refine zrun_sound t_X5_goodToLeave C E [87] 80 _ _ _ _ ?_
    refine And.intro (by omega) (And.intro (by omega) ?_)
    rw [ew, f30]
    refine And.intro (by omega) (And.intro r30 (And.intro (fun c => ?_) (fun c => ?_)))
    · exact And.intro hf (And.intro ⟨A, hA, hfa⟩ ⟨0, rfl, none_b (by omega)⟩)
    · refine And.intro (by omega) (And.intro (by omega) ?_)
      rw [ew, f31]
      refine And.intro (by omega) (And.intro r31 (And.intro (fun c2 => ?_) (fun c2 => ?_)))
      · refine And.intro (by omega) (And.intro (by omega) ?_)
        refine And.intro (by omega) (And.intro (by omega) ?_)
        rw [ew, f26, f27, ho1, ho2]
        refine zJ_le (loop 4 0 g A 0 (by omega) hf hA hfa ⟨by omega, c2⟩ (fun p y' a b => ?_)) (And.intro rfl (And.intro rfl (And.intro rfl (And.intro rfl (And.intro rfl (And.intro rfl (And.intro rfl trivial))))))) rfl rfl
        rw [lb_0]
        exact ⟨fun q => (by cases q), fun q => absurd q.1 (by omega)⟩
      · exact And.intro hf (And.intro ⟨A, hA, hfa⟩ ⟨0, rfl, none_b (by omega)⟩)
  obtain ⟨b1, b2, b3, b4⟩ := hab
  refine zrun_sound t_X5_goodToLeave C E [28] 80 _ _ _ _ ?_
  refine And.intro (by omega) (And.intro (by omega) ?_)
  refine And.intro (by omega) (And.intro (by omega) ?_)
  rw [ew, em]
  refine And.intro rm (And.intro r29 (And.intro (fun c => ?_) (fun c => ?_)))
  · refine rest h A (fr_rfl _ _) hA ⟨by omega, b2, fun j q1 q2 => ?_, b4⟩
    by_cases e : j = m
    · rw [e]; exact c
    · exact b3 j (by omega) q2
  · refine And.intro (by omega) (And.intro (by omega) ?_)
    refine rest (setI h 38 w m) m (fr_setI (fr_rfl _ _) (by simp)) (by rw [setI_at, if_pos ⟨rfl, rfl⟩]) ⟨Nat.le_refl _, by omega, fun j q1 q2 => absurd q1 (by omega), fun _ => by omega⟩
