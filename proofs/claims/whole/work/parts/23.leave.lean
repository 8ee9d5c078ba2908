/-! ===== one step of a walker; what is reached ===== -/
def wyS (one other : Nat → Int) (tk : Nat → Nat → Int) (go : Nat → Nat → Nat → Prop) (w p m y p' m' y' : Nat) : Prop := go w m y ∧ (m' : Int) = (m : Int) + tk w y ∧ y' = min (y + 1) 3 ∧ ((one w = (p : Int) ∧ other w = (p' : Int)) ∨ (other w = (p : Int) ∧ one w = (p' : Int)))
def wtS (wt : Nat → Nat → Nat → Prop) (p m y p' m' y' : Nat) : Prop := p' = p ∧ m' = m + 1 ∧ y' = y ∧ wt p m y
def stS (N : Nat) (one other : Nat → Int) (tk : Nat → Nat → Int) (go : Nat → Nat → Nat → Prop) (wt : Nat → Nat → Nat → Prop) (p m y p' m' y' : Nat) : Prop := wtS wt p m y p' m' y' ∨ ∃ w, w < N ∧ wyS one other tk go w p m y p' m' y'
def RdS (S : Nat → Nat → Nat → Nat → Nat → Nat → Prop) (p0 m0 p m y : Nat) : Prop := ∀ R : Nat → Nat → Nat → Prop, R p0 m0 0 → (∀ p m y p' m' y', R p m y → S p m y p' m' y' → R p' m' y') → R p m y
theorem RdS_0 (S : Nat → Nat → Nat → Nat → Nat → Nat → Prop) (p0 m0 : Nat) : RdS S p0 m0 p0 m0 0 := fun _ h _ => h
theorem RdS_s {S : Nat → Nat → Nat → Nat → Nat → Nat → Prop} {p0 m0 p m y p' m' y' : Nat} (h : RdS S p0 m0 p m y) (hs : S p m y p' m' y') : RdS S p0 m0 p' m' y' := fun R h0 h1 => h1 p m y p' m' y' (h R h0 h1) hs
theorem RdS_inv {S : Nat → Nat → Nat → Nat → Nat → Nat → Prop} {p0 m0 p m y : Nat} (h : RdS S p0 m0 p m y) : (p = p0 ∧ m = m0 ∧ y = 0) ∨ ∃ q n z, RdS S p0 m0 q n z ∧ S q n z p m y := by
  refine (h (fun p m y => RdS S p0 m0 p m y ∧ ((p = p0 ∧ m = m0 ∧ y = 0) ∨ ∃ q n z, RdS S p0 m0 q n z ∧ S q n z p m y)) ⟨RdS_0 S p0 m0, Or.inl ⟨rfl, rfl, rfl⟩⟩ ?_).2
  intro p m y p' m' y' hr hs
  exact ⟨RdS_s hr.1 hs, Or.inr ⟨p, m, y, hr.1, hs⟩⟩
theorem idx4 {p y a z : Nat} (hy : y < 4) : (4 * p + y = 4 * a + min (z + 1) 3) ↔ (p = a ∧ y = min (z + 1) 3) := by omega
theorem min_v (a y : Nat) : (4 * (a : Int) + ((min (y + 1) 3 : Nat) : Int)).toNat = 4 * a + min (y + 1) 3 := by omega
theorem ite01 (p : Bool) : ((if p = true then (1 : Int) else 0) = 1 ↔ p = true) ∧ ((if p = true then (1 : Int) else 0) = 0 ∨ (if p = true then (1 : Int) else 0) = 1) := by
  cases p <;> decide
/-- first minute above b, from m on -/
def FA (row : Nat → Int) (b : Int) (m r : Nat) : Prop := m ≤ r ∧ r ≤ 1440 ∧ (∀ j : Nat, m ≤ j → j < r → row j ≤ b) ∧ (r < 1440 → b < row r)
/-- the rows of a search -/
def SP (h : zH) (σ P N : Nat) : Prop := h.1 2 10 = N ∧ N ≤ 24 ∧ h.1 2 8 = P ∧ P ≤ 12 ∧ σ < 4 ∧ (∀ w : Nat, w < N → (0 ≤ h.1 26 w ∧ h.1 26 w < P) ∧ (0 ≤ h.1 27 w ∧ h.1 27 w < P) ∧ h.1 26 w ≠ h.1 27 w) ∧ (∀ w : Nat, w < N → 1 ≤ h.1 28 w ∧ h.1 28 w ≤ 90) ∧ (50 ≤ h.1 32 σ ∧ h.1 32 σ ≤ 400) ∧ (∀ w : Nat, w < N → inR (h.1 29 w) ∧ inR (h.1 30 w) ∧ inR (h.1 31 w)) ∧ (∀ m : Nat, m < 1440 → inR (h.1 34 m)) ∧ (∀ p : Nat, p < 12 → inR (h.1 25 p)) ∧ (∀ w y : Nat, w < N → y < 4 → h.1 37 (4 * w + y) = takeF (h.1 28 w) (h.1 32 σ) y)
def tkC (h : zH) (σ : Nat) (w y : Nat) : Int := takeF (h.1 28 w) (h.1 32 σ) y
def goC (h : zH) (σ : Nat) (w m y : Nat) : Prop := goP (h.1 30 w) (h.1 31 w) (tkC h σ w y) (h.1 34) (h.1 29 w) m
def wtC (h : zH) (p m y : Nat) : Prop := wtP (h.1 34) (h.1 25 p) m ∧ lb (h.2 4 6) (4 * p + y) = true
def AbOK (h : zH) (w m : Nat) : Prop := (-1 ≤ h.1 38 w ∧ h.1 38 w ≤ 1440) ∧ (h.1 38 w < m ∨ ∃ r : Nat, h.1 38 w = r ∧ FA (h.1 34) (h.1 29 w) m r)
theorem FA_go {h : zH} {σ w m y r : Nat} (hf : FA (h.1 34) (h.1 29 w) m r) (htk : 1 ≤ tkC h σ w y) (hh : h.1 30 w ≤ m ∧ (m : Int) ≤ h.1 31 w) : goC h σ w m y ↔ (m : Int) + tkC h σ w y < r := by
  obtain ⟨f1, f2, f3, f4⟩ := hf
  unfold goC goP
  constructor
  · rintro ⟨-, g2, g3⟩
    refine Classical.byContradiction (fun q => ?_)
    by_cases hr : r < 1440
    · have a := g3 r f1 (by omega)
      have b := f4 hr
      omega
    · omega
  · intro q
    exact ⟨hh, by omega, fun j a b => f3 j a (by omega)⟩
set_option maxHeartbeats 8000000 in
theorem c_X5_leave_35 {d : Nat} (hd : 2 ≤ d) (h : zH) (σ P N m w : Nat) (hS : SP h σ P N) (hm : m < 1440) (hw : w < N) (hab : AbOK h w m) :
    zC d k_X5_leave [sR 4, sR 35, sI m, sI w] h (fun o g => o = none ∧ fr (fun c i => c == 35 || (c == 38 && i == w)) h g ∧ AbOK g w m ∧ ∀ p' m' y' : Nat, p' < 12 → m' < 1440 → y' < 4 → (lb (g.2 35 m') (4 * p' + y') = true ↔ lb (h.2 35 m') (4 * p' + y') = true ∨ ∃ p y, p < 12 ∧ y < 4 ∧ lb (h.2 35 m) (4 * p + y) = true ∧ wyS (h.1 26) (h.1 27) (tkC h σ) (goC h σ) w p m y p' m' y')) := by
  have hS2 := hS
  obtain ⟨hN, hN24, hP, hP12, hσ, hends, hlen, hhu, hrg, hrow, hsf, htk⟩ := hS
  obtain ⟨he1, he2, hne⟩ := hends w hw
  obtain ⟨o1, ho1⟩ : ∃ o1 : Nat, h.1 26 w = o1 := ⟨(h.1 26 w).toNat, by omega⟩
  obtain ⟨o2, ho2⟩ : ∃ o2 : Nat, h.1 27 w = o2 := ⟨(h.1 27 w).toNat, by omega⟩
  have ew : ((w : Int)).toNat = w := rfl
  have em : ((m : Int)).toNat = m := rfl
  have q1 : (4 * (o1 : Int)).toNat = 4 * o1 := by omega
  have q2 : (4 * (o2 : Int)).toNat = 4 * o2 := by omega
  have f1 := fun y hy => four_b (h.2 35 m) (k := 4 * (o1 : Int)) (by omega) (by omega) y hy
  have f2 := fun y hy => four_b (h.2 35 m) (k := 4 * (o2 : Int)) (by omega) (by omega) y hy
  have z1 := four_0 (h.2 35 m) (k := 4 * (o1 : Int)) (by omega) (by omega)
  have z2 := four_0 (h.2 35 m) (k := 4 * (o2 : Int)) (by omega) (by omega)
  have i1 := four_in (h.2 35 m) (4 * (o1 : Int))
  have i2 := four_in (h.2 35 m) (4 * (o2 : Int))
  rw [q1] at f1 z1
  rw [q2] at f2 z2
  have tkb : ∀ y : Nat, y < 4 → 1 ≤ tkC h σ w y ∧ tkC h σ w y ≤ 387 := fun y hy => (takeF_b (hlen w hw) hhu (by omega)).2
  have tku : ∀ y z : Nat, y ≤ z → tkC h σ w y ≤ tkC h σ w z := fun y z hyz => takeF_up (hlen w hw).1 (by omega)
  obtain ⟨r29, r30, r31⟩ := hrg w hw
  refine zC_of (by decide +kernel) (Nat.le_of_ble_eq_true rfl) (fun X C E => ?_)
  generalize hA1 : and32 (l2i (ushr64 (h.2 35 m) (4 * (o1 : Int)))) 15 = A1 at f1 z1 i1
  generalize hA2 : and32 (l2i (ushr64 (h.2 35 m) (4 * (o2 : Int)))) 15 = A2 at f2 z2 i2
  have loop : ∀ (f y : Nat) (g : zH) (r : Nat), y + f = 4 → fr (fun c i => c == 35 || (c == 38 && i == w)) h g → g.1 38 w = r → FA (h.1 34) (h.1 29 w) m r → (h.1 30 w ≤ m ∧ (m : Int) ≤ h.1 31 w) →
      (∀ p' m' y' : Nat, p' < 12 → m' < 1440 → y' < 4 → (lb (g.2 35 m') (4 * p' + y') = true ↔ lb (h.2 35 m') (4 * p' + y') = true ∨ ∃ p y0, p < 12 ∧ y0 < y ∧ lb (h.2 35 m) (4 * p + y0) = true ∧ wyS (h.1 26) (h.1 27) (tkC h σ) (goC h σ) w p m y0 p' m' y')) →
      zJ X 121 [some (sR 4), some (sR 35), some (sI m), some (sI w), some (sI (4 * (o1 : Int))), some (sI (4 * (o2 : Int))), some (sI A1), some (sI A2), some (sI y)] [] g := by
    intro f
    induction f with
    | zero =>
      intro y g r hy hf hr hfa hh hb
      have hy4 : y = 4 := by omega
      subst hy4
      refine zrun_sound t_X5_leave C E [] 60 _ _ _ _ ?_
      refine And.intro (by omega) (And.intro (by omega) (And.intro (fun c => ?_) (fun c => absurd (by omega) c)))
      refine And.intro rfl (And.intro hf (And.intro ⟨⟨by omega, by have := hfa.2.1; omega⟩, Or.inr ⟨r, hr, ?_⟩⟩ hb))
      have e34 : g.1 34 = h.1 34 := funext fun i => (hf 34 i rfl).1
      rw [e34, (hf 29 w rfl).1]
      exact hfa
    | succ f ih =>
      intro y g r hy hf hr hfa hh hb
      have ei : (4 * (w : Int) + y).toNat = 4 * w + y := by omega
      have e37 : g.1 37 (4 * w + y) = tkC h σ w y := by rw [(hf 37 _ rfl).1, htk w y hw (by omega)]; rfl
      have tb := tkb y (by omega)
      have hgo := fun z (hz : z < 4) => FA_go (σ := σ) (y := z) hfa (tkb z hz).1 hh
      obtain ⟨t, ht⟩ : ∃ t : Nat, (m : Int) + tkC h σ w y = t := ⟨((m : Int) + tkC h σ w y).toNat, by omega⟩
      have et : ((t : Int)).toNat = t := rfl
      have hr1 := hfa.2.1
      refine zrun_sound t_X5_leave C E [121] 120 _ _ _ _ ?_
      refine And.intro (by omega) (And.intro (by omega) (And.intro (fun c => absurd c (by omega)) (fun c => ?_)))
      refine And.intro (by omega) (And.intro (by omega) ?_)
      rw [ei, e37]
      refine And.intro (by omega) (And.intro (by omega) ?_)
      rw [ew, hr, ht]
      refine And.intro (by omega) (And.intro (by omega) (And.intro (fun c2 => ?_) (fun c2 => ?_)))
      · -- it goes
        have hgy : goC h σ w m y := (hgo y (by omega)).mpr (by omega)
        have v1 : (4 * (o2 : Int) + ((min (y + 1) 3 : Nat) : Int)).toNat = 4 * o2 + min (y + 1) 3 := min_v o2 y
        have v2 : (4 * (o1 : Int) + ((min (y + 1) 3 : Nat) : Int)).toNat = 4 * o1 + min (y + 1) 3 := min_v o1 y
        have hmin : (min ((y : Int) + 1) 3) = ((min (y + 1) 3 : Nat) : Int) := by omega
        refine And.intro (by omega) (And.intro (by omega) (And.intro (by omega) ?_))
        refine And.intro (by omega) (And.intro (by omega) ?_)
        refine And.intro (by omega) (And.intro (by omega) ?_)
        refine And.intro (by omega) (And.intro (by omega) ?_)
        refine And.intro (by omega) (And.intro (by omega) ?_)
        rw [et, f1 y (by omega), f2 y (by omega), hmin]
        generalize hb1 : (if lb (h.2 35 m) (4 * o1 + y) = true then (1 : Int) else 0) = b1
        generalize hb2 : (if lb (h.2 35 m) (4 * o2 + y) = true then (1 : Int) else 0) = b2
        have c1 : b1 = 0 ∨ b1 = 1 := by rw [← hb1]; exact (ite01 _).2
        have c3 : b2 = 0 ∨ b2 = 1 := by rw [← hb2]; exact (ite01 _).2
        have k1 : b1 = 1 ↔ lb (h.2 35 m) (4 * o1 + y) = true := by rw [← hb1]; exact (ite01 _).1
        have k2 : b2 = 1 ↔ lb (h.2 35 m) (4 * o2 + y) = true := by rw [← hb2]; exact (ite01 _).1
        generalize hx1 : (g.2 35 t ||| shl64 (i2l b1) (4 * (o2 : Int) + ((min (y + 1) 3 : Nat) : Int))) = x1
        have e5 : (setL g 35 t x1).2 35 t = x1 := by rw [setL_at, if_pos ⟨rfl, rfl⟩]
        rw [e5]
        refine zJ_le (ih (y + 1) (setL (setL g 35 t x1) 35 t (x1 ||| shl64 (i2l b2) (4 * (o1 : Int) + ((min (y + 1) 3 : Nat) : Int)))) r (by omega) (fr_setL (fr_setL hf rfl) rfl) hr hfa hh (fun p' m' y' a1 a2 a3 => ?_)) (And.intro rfl (And.intro rfl (And.intro rfl (And.intro rfl (And.intro rfl (And.intro rfl (And.intro rfl (And.intro rfl (And.intro rfl trivial))))))))) rfl rfl
        have old := hb p' m' y' a1 a2 a3
        have step : (∃ p y0, p < 12 ∧ y0 < y + 1 ∧ lb (h.2 35 m) (4 * p + y0) = true ∧ wyS (h.1 26) (h.1 27) (tkC h σ) (goC h σ) w p m y0 p' m' y') ↔ (∃ p y0, p < 12 ∧ y0 < y ∧ lb (h.2 35 m) (4 * p + y0) = true ∧ wyS (h.1 26) (h.1 27) (tkC h σ) (goC h σ) w p m y0 p' m' y') ∨ (m' = t ∧ y' = min (y + 1) 3 ∧ ((lb (h.2 35 m) (4 * o1 + y) = true ∧ p' = o2) ∨ (lb (h.2 35 m) (4 * o2 + y) = true ∧ p' = o1))) := by
          constructor
          · rintro ⟨p, y0, s1, s2, s3, s4⟩
            by_cases ey : y0 = y
            · subst ey
              obtain ⟨t1, t2, t3, t4⟩ := s4
              refine Or.inr ⟨by omega, t3, ?_⟩
              rcases t4 with ⟨t4, t5⟩ | ⟨t4, t5⟩
              · have : p = o1 := by omega
                subst this
                exact Or.inl ⟨s3, by omega⟩
              · have : p = o2 := by omega
                subst this
                exact Or.inr ⟨s3, by omega⟩
            · exact Or.inl ⟨p, y0, s1, by omega, s3, s4⟩
          · rintro (⟨p, y0, s1, s2, s3, s4⟩ | ⟨s1, s2, s3⟩)
            · exact ⟨p, y0, s1, by omega, s3, s4⟩
            · rcases s3 with ⟨s3, s4⟩ | ⟨s3, s4⟩
              · exact ⟨o1, y, by omega, by omega, s3, hgy, by omega, s2, Or.inl ⟨ho1, by rw [ho2, s4]⟩⟩
              · exact ⟨o2, y, by omega, by omega, s3, hgy, by omega, s2, Or.inr ⟨ho2, by rw [ho1, s4]⟩⟩
        rw [step, setL_at, setL_at]
        by_cases hmt : m' = t
        · subst hmt
          rw [if_pos ⟨rfl, rfl⟩, lb_or, ← hx1, lb_or, lb_one c1 (by omega) (by omega) _ (by omega), lb_one c3 (by omega) (by omega) _ (by omega)]
          rw [v1, v2]
          simp only [Bool.or_eq_true, Bool.and_eq_true, decide_eq_true_eq, k1, k2, old, idx4 a3]
          constructor
          · rintro ((s1 | ⟨s1, s2⟩) | ⟨s1, s2⟩)
            · rcases s1 with s1 | s1
              · exact Or.inl s1
              · exact Or.inr (Or.inl s1)
            · exact Or.inr (Or.inr ⟨trivial, s2.2, Or.inl ⟨s1, s2.1⟩⟩)
            · exact Or.inr (Or.inr ⟨trivial, s2.2, Or.inr ⟨s1, s2.1⟩⟩)
          · rintro (s1 | s1 | ⟨-, s2, s3⟩)
            · exact Or.inl (Or.inl (Or.inl s1))
            · exact Or.inl (Or.inl (Or.inr s1))
            · rcases s3 with ⟨s3, s4⟩ | ⟨s3, s4⟩
              · exact Or.inl (Or.inr ⟨s3, s4, s2⟩)
              · exact Or.inr ⟨s3, s4, s2⟩
        · rw [if_neg (fun q => hmt q.2), if_neg (fun q => hmt q.2), old]
          constructor
          · rintro (s1 | s1)
            · exact Or.inl s1
            · exact Or.inr (Or.inl s1)
          · rintro (s1 | s1 | s1)
            · exact Or.inl s1
            · exact Or.inr s1
            · exact absurd s1.1 hmt
      · -- no more
        refine And.intro rfl (And.intro hf (And.intro ⟨⟨by omega, by omega⟩, Or.inr ⟨r, hr, ?_⟩⟩ (fun p' m' y' a1 a2 a3 => ?_)))
        · have e34 : g.1 34 = h.1 34 := funext fun i => (hf 34 i rfl).1
          rw [e34, (hf 29 w rfl).1]
          exact hfa
        · rw [hb p' m' y' a1 a2 a3]
          constructor
          · rintro (s1 | ⟨p, y0, s1, s2, s3, s4⟩)
            · exact Or.inl s1
            · exact Or.inr ⟨p, y0, s1, by omega, s3, s4⟩
          · rintro (s1 | ⟨p, y0, s1, s2, s3, s4⟩)
            · exact Or.inl s1
            · refine Or.inr ⟨p, y0, s1, ?_, s3, s4⟩
              refine Classical.byContradiction (fun q => ?_)
              have a := (hgo y0 s2).mp s4.1
              have b := tku y y0 (by omega)
              omega
  have none_b : (¬ (h.1 30 w ≤ m ∧ (m : Int) ≤ h.1 31 w)) ∨ (A1 = 0 ∧ A2 = 0) → ∀ p' m' y' : Nat, p' < 12 → m' < 1440 → y' < 4 → (lb (h.2 35 m') (4 * p' + y') = true ↔ lb (h.2 35 m') (4 * p' + y') = true ∨ ∃ p y, p < 12 ∧ y < 4 ∧ lb (h.2 35 m) (4 * p + y) = true ∧ wyS (h.1 26) (h.1 27) (tkC h σ) (goC h σ) w p m y p' m' y') := by
    intro hc p' m' y' _ _ _
    refine ⟨Or.inl, ?_⟩
    rintro (s1 | ⟨p, y, s1, s2, s3, s4⟩)
    · exact s1
    · exfalso
      rcases hc with hc | ⟨hc1, hc2⟩
      · exact hc s4.1.1
      · rcases s4.2.2.2 with ⟨t4, -⟩ | ⟨t4, -⟩
        · have : p = o1 := by omega
          subst this
          rw [z1.mp hc1 y s2] at s3
          cases s3
        · have : p = o2 := by omega
          subst this
          rw [z2.mp hc2 y s2] at s3
          cases s3
  refine zrun_sound t_X5_leave C E [118, 121] 120 _ _ _ _ ?_
  refine And.intro (by omega) (And.intro (by omega) ?_)
  refine And.intro (by omega) (And.intro (by omega) ?_)
  refine And.intro (by omega) (And.intro (by omega) ?_)
  refine And.intro (by omega) (And.intro (by omega) ?_)
  rw [ew, em, ho1, ho2, hA1]
  have hor := or_tab A1.toNat (by omega) A2.toNat (by omega)
  rw [Int.toNat_of_nonneg i1.1, Int.toNat_of_nonneg i2.1] at hor
  refine And.intro (or32_in _ _) (And.intro (fun c => ?_) (fun c => ?_))
  · have c' : or32 A1 A2 = 0 := by rw [← hA2]; exact c
    have hz := hor.mp c'
    exact And.intro rfl (And.intro (fr_rfl _ _) (And.intro hab (none_b (Or.inr ⟨by omega, by omega⟩))))
  · refine And.intro (by omega) (And.intro (by omega) ?_)
    rw [ew]
    refine And.intro (by omega) (And.intro r30 (And.intro (fun c2 => ?_) (fun c2 => ?_)))
    · exact And.intro rfl (And.intro (fr_rfl _ _) (And.intro hab (none_b (Or.inl (by omega)))))
    · refine And.intro (by omega) (And.intro (by omega) ?_)
      rw [ew]
      refine And.intro (by omega) (And.intro r31 (And.intro (fun c3 => ?_) (fun c3 => ?_)))
      · have hh : h.1 30 w ≤ m ∧ (m : Int) ≤ h.1 31 w := ⟨by omega, c3⟩
        have nil : ∀ p' m' y' : Nat, p' < 12 → m' < 1440 → y' < 4 → (lb (h.2 35 m') (4 * p' + y') = true ↔ lb (h.2 35 m') (4 * p' + y') = true ∨ ∃ p y0, p < 12 ∧ y0 < 0 ∧ lb (h.2 35 m) (4 * p + y0) = true ∧ wyS (h.1 26) (h.1 27) (tkC h σ) (goC h σ) w p m y0 p' m' y') := by
          intro p' m' y' _ _ _
          refine ⟨Or.inl, ?_⟩
          rintro (s1 | ⟨p, y, s1, s2, -⟩)
          · exact s1
          · omega
        refine And.intro (by omega) (And.intro (by omega) ?_)
        rw [ew]
        have h118 : ∀ (g : zH) (r : Nat), fr (fun c i => c == 35 || (c == 38 && i == w)) h g → (∀ m', g.2 35 m' = h.2 35 m') → g.1 38 w = r → FA (h.1 34) (h.1 29 w) m r → zJ X 118 [some (sR 4), some (sR 35), some (sI m), some (sI w), some (sI (4 * (o1 : Int))), some (sI (4 * (o2 : Int))), some (sI A1), some (sI A2)] [] g := by
          intro g r hf hg hr hfa
          refine zrun_sound t_X5_leave C E [121] 20 _ _ _ _ ?_
          exact loop 4 0 g r (by omega) hf hr hfa hh (fun p' m' y' a1 a2 a3 => by rw [hg m']; exact nil p' m' y' a1 a2 a3)
        obtain ⟨hab1, hab2⟩ := hab
        refine And.intro (by omega) (And.intro (by omega) (And.intro (fun c4 => ?_) (fun c4 => ?_)))
        · rcases hab2 with hab2 | ⟨r, hr, hfa⟩
          · omega
          · exact zJ_le (h118 h r (fr_rfl _ _) (fun _ => rfl) hr hfa) (And.intro rfl (And.intro rfl (And.intro rfl (And.intro rfl (And.intro rfl (And.intro rfl (And.intro rfl (And.intro (by rw [hA2]) trivial)))))))) rfl rfl
        · refine And.intro (by omega) (And.intro (by omega) ?_)
          rw [ew]
          refine zcall_i (d' := d - 1) (by omega) (c_X4_firstAbove h (h.1 29 w) m r29 (by omega) hrow) ?_
          rintro o g ⟨rfl, r, rfl, r1, r2, r3, r4⟩
          refine And.intro (by omega) (And.intro (by omega) ?_)
          exact zJ_le (h118 (setI h 38 w r) r (fr_setI (fr_rfl _ _) (by simp)) (fun _ => rfl) (by rw [setI_at, if_pos ⟨rfl, rfl⟩]) ⟨r1, r2, r3, r4⟩) (And.intro rfl (And.intro rfl (And.intro rfl (And.intro rfl (And.intro rfl (And.intro rfl (And.intro rfl (And.intro (by rw [hA2]) trivial)))))))) rfl rfl
      · exact And.intro rfl (And.intro (fr_rfl _ _) (And.intro hab (none_b (Or.inl (by omega)))))

set_option maxHeartbeats 8000000 in
theorem c_X5_leave_36 {d : Nat} (hd : 2 ≤ d) (h : zH) (σ P N m w : Nat) (hS : SP h σ P N) (hm : m < 1440) (hw : w < N) (hab : AbOK h w m) :
    zC d k_X5_leave [sR 4, sR 36, sI m, sI w] h (fun o g => o = none ∧ fr (fun c i => c == 36 || (c == 38 && i == w)) h g ∧ AbOK g w m ∧ ∀ p' m' y' : Nat, p' < 12 → m' < 1440 → y' < 4 → (lb (g.2 36 m') (4 * p' + y') = true ↔ lb (h.2 36 m') (4 * p' + y') = true ∨ ∃ p y, p < 12 ∧ y < 4 ∧ lb (h.2 36 m) (4 * p + y) = true ∧ wyS (h.1 26) (h.1 27) (tkC h σ) (goC h σ) w p m y p' m' y')) := by
  have hS2 := hS
  obtain ⟨hN, hN24, hP, hP12, hσ, hends, hlen, hhu, hrg, hrow, hsf, htk⟩ := hS
  obtain ⟨he1, he2, hne⟩ := hends w hw
  obtain ⟨o1, ho1⟩ : ∃ o1 : Nat, h.1 26 w = o1 := ⟨(h.1 26 w).toNat, by omega⟩
  obtain ⟨o2, ho2⟩ : ∃ o2 : Nat, h.1 27 w = o2 := ⟨(h.1 27 w).toNat, by omega⟩
  have ew : ((w : Int)).toNat = w := rfl
  have em : ((m : Int)).toNat = m := rfl
  have q1 : (4 * (o1 : Int)).toNat = 4 * o1 := by omega
  have q2 : (4 * (o2 : Int)).toNat = 4 * o2 := by omega
  have f1 := fun y hy => four_b (h.2 36 m) (k := 4 * (o1 : Int)) (by omega) (by omega) y hy
  have f2 := fun y hy => four_b (h.2 36 m) (k := 4 * (o2 : Int)) (by omega) (by omega) y hy
  have z1 := four_0 (h.2 36 m) (k := 4 * (o1 : Int)) (by omega) (by omega)
  have z2 := four_0 (h.2 36 m) (k := 4 * (o2 : Int)) (by omega) (by omega)
  have i1 := four_in (h.2 36 m) (4 * (o1 : Int))
  have i2 := four_in (h.2 36 m) (4 * (o2 : Int))
  rw [q1] at f1 z1
  rw [q2] at f2 z2
  have tkb : ∀ y : Nat, y < 4 → 1 ≤ tkC h σ w y ∧ tkC h σ w y ≤ 387 := fun y hy => (takeF_b (hlen w hw) hhu (by omega)).2
  have tku : ∀ y z : Nat, y ≤ z → tkC h σ w y ≤ tkC h σ w z := fun y z hyz => takeF_up (hlen w hw).1 (by omega)
  obtain ⟨r29, r30, r31⟩ := hrg w hw
  refine zC_of (by decide +kernel) (Nat.le_of_ble_eq_true rfl) (fun X C E => ?_)
  generalize hA1 : and32 (l2i (ushr64 (h.2 36 m) (4 * (o1 : Int)))) 15 = A1 at f1 z1 i1
  generalize hA2 : and32 (l2i (ushr64 (h.2 36 m) (4 * (o2 : Int)))) 15 = A2 at f2 z2 i2
  have loop : ∀ (f y : Nat) (g : zH) (r : Nat), y + f = 4 → fr (fun c i => c == 36 || (c == 38 && i == w)) h g → g.1 38 w = r → FA (h.1 34) (h.1 29 w) m r → (h.1 30 w ≤ m ∧ (m : Int) ≤ h.1 31 w) →
      (∀ p' m' y' : Nat, p' < 12 → m' < 1440 → y' < 4 → (lb (g.2 36 m') (4 * p' + y') = true ↔ lb (h.2 36 m') (4 * p' + y') = true ∨ ∃ p y0, p < 12 ∧ y0 < y ∧ lb (h.2 36 m) (4 * p + y0) = true ∧ wyS (h.1 26) (h.1 27) (tkC h σ) (goC h σ) w p m y0 p' m' y')) →
      zJ X 121 [some (sR 4), some (sR 36), some (sI m), some (sI w), some (sI (4 * (o1 : Int))), some (sI (4 * (o2 : Int))), some (sI A1), some (sI A2), some (sI y)] [] g := by
    intro f
    induction f with
    | zero =>
      intro y g r hy hf hr hfa hh hb
      have hy4 : y = 4 := by omega
      subst hy4
      refine zrun_sound t_X5_leave C E [] 60 _ _ _ _ ?_
      refine And.intro (by omega) (And.intro (by omega) (And.intro (fun c => ?_) (fun c => absurd (by omega) c)))
      refine And.intro rfl (And.intro hf (And.intro ⟨⟨by omega, by have := hfa.2.1; omega⟩, Or.inr ⟨r, hr, ?_⟩⟩ hb))
      have e34 : g.1 34 = h.1 34 := funext fun i => (hf 34 i rfl).1
      rw [e34, (hf 29 w rfl).1]
      exact hfa
    | succ f ih =>
      intro y g r hy hf hr hfa hh hb
      have ei : (4 * (w : Int) + y).toNat = 4 * w + y := by omega
      have e37 : g.1 37 (4 * w + y) = tkC h σ w y := by rw [(hf 37 _ rfl).1, htk w y hw (by omega)]; rfl
      have tb := tkb y (by omega)
      have hgo := fun z (hz : z < 4) => FA_go (σ := σ) (y := z) hfa (tkb z hz).1 hh
      obtain ⟨t, ht⟩ : ∃ t : Nat, (m : Int) + tkC h σ w y = t := ⟨((m : Int) + tkC h σ w y).toNat, by omega⟩
      have et : ((t : Int)).toNat = t := rfl
      have hr1 := hfa.2.1
      refine zrun_sound t_X5_leave C E [121] 120 _ _ _ _ ?_
      refine And.intro (by omega) (And.intro (by omega) (And.intro (fun c => absurd c (by omega)) (fun c => ?_)))
      refine And.intro (by omega) (And.intro (by omega) ?_)
      rw [ei, e37]
      refine And.intro (by omega) (And.intro (by omega) ?_)
      rw [ew, hr, ht]
      refine And.intro (by omega) (And.intro (by omega) (And.intro (fun c2 => ?_) (fun c2 => ?_)))
      · -- it goes
        have hgy : goC h σ w m y := (hgo y (by omega)).mpr (by omega)
        have v1 : (4 * (o2 : Int) + ((min (y + 1) 3 : Nat) : Int)).toNat = 4 * o2 + min (y + 1) 3 := min_v o2 y
        have v2 : (4 * (o1 : Int) + ((min (y + 1) 3 : Nat) : Int)).toNat = 4 * o1 + min (y + 1) 3 := min_v o1 y
        have hmin : (min ((y : Int) + 1) 3) = ((min (y + 1) 3 : Nat) : Int) := by omega
        refine And.intro (by omega) (And.intro (by omega) (And.intro (by omega) ?_))
        refine And.intro (by omega) (And.intro (by omega) ?_)
        refine And.intro (by omega) (And.intro (by omega) ?_)
        refine And.intro (by omega) (And.intro (by omega) ?_)
        refine And.intro (by omega) (And.intro (by omega) ?_)
        rw [et, f1 y (by omega), f2 y (by omega), hmin]
        generalize hb1 : (if lb (h.2 36 m) (4 * o1 + y) = true then (1 : Int) else 0) = b1
        generalize hb2 : (if lb (h.2 36 m) (4 * o2 + y) = true then (1 : Int) else 0) = b2
        have c1 : b1 = 0 ∨ b1 = 1 := by rw [← hb1]; exact (ite01 _).2
        have c3 : b2 = 0 ∨ b2 = 1 := by rw [← hb2]; exact (ite01 _).2
        have k1 : b1 = 1 ↔ lb (h.2 36 m) (4 * o1 + y) = true := by rw [← hb1]; exact (ite01 _).1
        have k2 : b2 = 1 ↔ lb (h.2 36 m) (4 * o2 + y) = true := by rw [← hb2]; exact (ite01 _).1
        generalize hx1 : (g.2 36 t ||| shl64 (i2l b1) (4 * (o2 : Int) + ((min (y + 1) 3 : Nat) : Int))) = x1
        have e5 : (setL g 36 t x1).2 36 t = x1 := by rw [setL_at, if_pos ⟨rfl, rfl⟩]
        rw [e5]
        refine zJ_le (ih (y + 1) (setL (setL g 36 t x1) 36 t (x1 ||| shl64 (i2l b2) (4 * (o1 : Int) + ((min (y + 1) 3 : Nat) : Int)))) r (by omega) (fr_setL (fr_setL hf rfl) rfl) hr hfa hh (fun p' m' y' a1 a2 a3 => ?_)) (And.intro rfl (And.intro rfl (And.intro rfl (And.intro rfl (And.intro rfl (And.intro rfl (And.intro rfl (And.intro rfl (And.intro rfl trivial))))))))) rfl rfl
        have old := hb p' m' y' a1 a2 a3
        have step : (∃ p y0, p < 12 ∧ y0 < y + 1 ∧ lb (h.2 36 m) (4 * p + y0) = true ∧ wyS (h.1 26) (h.1 27) (tkC h σ) (goC h σ) w p m y0 p' m' y') ↔ (∃ p y0, p < 12 ∧ y0 < y ∧ lb (h.2 36 m) (4 * p + y0) = true ∧ wyS (h.1 26) (h.1 27) (tkC h σ) (goC h σ) w p m y0 p' m' y') ∨ (m' = t ∧ y' = min (y + 1) 3 ∧ ((lb (h.2 36 m) (4 * o1 + y) = true ∧ p' = o2) ∨ (lb (h.2 36 m) (4 * o2 + y) = true ∧ p' = o1))) := by
          constructor
          · rintro ⟨p, y0, s1, s2, s3, s4⟩
            by_cases ey : y0 = y
            · subst ey
              obtain ⟨t1, t2, t3, t4⟩ := s4
              refine Or.inr ⟨by omega, t3, ?_⟩
              rcases t4 with ⟨t4, t5⟩ | ⟨t4, t5⟩
              · have : p = o1 := by omega
                subst this
                exact Or.inl ⟨s3, by omega⟩
              · have : p = o2 := by omega
                subst this
                exact Or.inr ⟨s3, by omega⟩
            · exact Or.inl ⟨p, y0, s1, by omega, s3, s4⟩
          · rintro (⟨p, y0, s1, s2, s3, s4⟩ | ⟨s1, s2, s3⟩)
            · exact ⟨p, y0, s1, by omega, s3, s4⟩
            · rcases s3 with ⟨s3, s4⟩ | ⟨s3, s4⟩
              · exact ⟨o1, y, by omega, by omega, s3, hgy, by omega, s2, Or.inl ⟨ho1, by rw [ho2, s4]⟩⟩
              · exact ⟨o2, y, by omega, by omega, s3, hgy, by omega, s2, Or.inr ⟨ho2, by rw [ho1, s4]⟩⟩
        rw [step, setL_at, setL_at]
        by_cases hmt : m' = t
        · subst hmt
          rw [if_pos ⟨rfl, rfl⟩, lb_or, ← hx1, lb_or, lb_one c1 (by omega) (by omega) _ (by omega), lb_one c3 (by omega) (by omega) _ (by omega)]
          rw [v1, v2]
          simp only [Bool.or_eq_true, Bool.and_eq_true, decide_eq_true_eq, k1, k2, old, idx4 a3]
          constructor
          · rintro ((s1 | ⟨s1, s2⟩) | ⟨s1, s2⟩)
            · rcases s1 with s1 | s1
              · exact Or.inl s1
              · exact Or.inr (Or.inl s1)
            · exact Or.inr (Or.inr ⟨trivial, s2.2, Or.inl ⟨s1, s2.1⟩⟩)
            · exact Or.inr (Or.inr ⟨trivial, s2.2, Or.inr ⟨s1, s2.1⟩⟩)
          · rintro (s1 | s1 | ⟨-, s2, s3⟩)
            · exact Or.inl (Or.inl (Or.inl s1))
            · exact Or.inl (Or.inl (Or.inr s1))
            · rcases s3 with ⟨s3, s4⟩ | ⟨s3, s4⟩
              · exact Or.inl (Or.inr ⟨s3, s4, s2⟩)
              · exact Or.inr ⟨s3, s4, s2⟩
        · rw [if_neg (fun q => hmt q.2), if_neg (fun q => hmt q.2), old]
          constructor
          · rintro (s1 | s1)
            · exact Or.inl s1
            · exact Or.inr (Or.inl s1)
          · rintro (s1 | s1 | s1)
            · exact Or.inl s1
            · exact Or.inr s1
            · exact absurd s1.1 hmt
      · -- no more
        refine And.intro rfl (And.intro hf (And.intro ⟨⟨by omega, by omega⟩, Or.inr ⟨r, hr, ?_⟩⟩ (fun p' m' y' a1 a2 a3 => ?_)))
        · have e34 : g.1 34 = h.1 34 := funext fun i => (hf 34 i rfl).1
          rw [e34, (hf 29 w rfl).1]
          exact hfa
        · rw [hb p' m' y' a1 a2 a3]
          constructor
          · rintro (s1 | ⟨p, y0, s1, s2, s3, s4⟩)
            · exact Or.inl s1
            · exact Or.inr ⟨p, y0, s1, by omega, s3, s4⟩
          · rintro (s1 | ⟨p, y0, s1, s2, s3, s4⟩)
            · exact Or.inl s1
            · refine Or.inr ⟨p, y0, s1, ?_, s3, s4⟩
              refine Classical.byContradiction (fun q => ?_)
              have a := (hgo y0 s2).mp s4.1
              have b := tku y y0 (by omega)
              omega
  have none_b : (¬ (h.1 30 w ≤ m ∧ (m : Int) ≤ h.1 31 w)) ∨ (A1 = 0 ∧ A2 = 0) → ∀ p' m' y' : Nat, p' < 12 → m' < 1440 → y' < 4 → (lb (h.2 36 m') (4 * p' + y') = true ↔ lb (h.2 36 m') (4 * p' + y') = true ∨ ∃ p y, p < 12 ∧ y < 4 ∧ lb (h.2 36 m) (4 * p + y) = true ∧ wyS (h.1 26) (h.1 27) (tkC h σ) (goC h σ) w p m y p' m' y') := by
    intro hc p' m' y' _ _ _
    refine ⟨Or.inl, ?_⟩
    rintro (s1 | ⟨p, y, s1, s2, s3, s4⟩)
    · exact s1
    · exfalso
      rcases hc with hc | ⟨hc1, hc2⟩
      · exact hc s4.1.1
      · rcases s4.2.2.2 with ⟨t4, -⟩ | ⟨t4, -⟩
        · have : p = o1 := by omega
          subst this
          rw [z1.mp hc1 y s2] at s3
          cases s3
        · have : p = o2 := by omega
          subst this
          rw [z2.mp hc2 y s2] at s3
          cases s3
  refine zrun_sound t_X5_leave C E [118, 121] 120 _ _ _ _ ?_
  refine And.intro (by omega) (And.intro (by omega) ?_)
  refine And.intro (by omega) (And.intro (by omega) ?_)
  refine And.intro (by omega) (And.intro (by omega) ?_)
  refine And.intro (by omega) (And.intro (by omega) ?_)
  rw [ew, em, ho1, ho2, hA1]
  have hor := or_tab A1.toNat (by omega) A2.toNat (by omega)
  rw [Int.toNat_of_nonneg i1.1, Int.toNat_of_nonneg i2.1] at hor
  refine And.intro (or32_in _ _) (And.intro (fun c => ?_) (fun c => ?_))
  · have c' : or32 A1 A2 = 0 := by rw [← hA2]; exact c
    have hz := hor.mp c'
    exact And.intro rfl (And.intro (fr_rfl _ _) (And.intro hab (none_b (Or.inr ⟨by omega, by omega⟩))))
  · refine And.intro (by omega) (And.intro (by omega) ?_)
    rw [ew]
    refine And.intro (by omega) (And.intro r30 (And.intro (fun c2 => ?_) (fun c2 => ?_)))
    · exact And.intro rfl (And.intro (fr_rfl _ _) (And.intro hab (none_b (Or.inl (by omega)))))
    · refine And.intro (by omega) (And.intro (by omega) ?_)
      rw [ew]
      refine And.intro (by omega) (And.intro r31 (And.intro (fun c3 => ?_) (fun c3 => ?_)))
      · have hh : h.1 30 w ≤ m ∧ (m : Int) ≤ h.1 31 w := ⟨by omega, c3⟩
        have nil : ∀ p' m' y' : Nat, p' < 12 → m' < 1440 → y' < 4 → (lb (h.2 36 m') (4 * p' + y') = true ↔ lb (h.2 36 m') (4 * p' + y') = true ∨ ∃ p y0, p < 12 ∧ y0 < 0 ∧ lb (h.2 36 m) (4 * p + y0) = true ∧ wyS (h.1 26) (h.1 27) (tkC h σ) (goC h σ) w p m y0 p' m' y') := by
          intro p' m' y' _ _ _
          refine ⟨Or.inl, ?_⟩
          rintro (s1 | ⟨p, y, s1, s2, -⟩)
          · exact s1
          · omega
        refine And.intro (by omega) (And.intro (by omega) ?_)
        rw [ew]
        have h118 : ∀ (g : zH) (r : Nat), fr (fun c i => c == 36 || (c == 38 && i == w)) h g → (∀ m', g.2 36 m' = h.2 36 m') → g.1 38 w = r → FA (h.1 34) (h.1 29 w) m r → zJ X 118 [some (sR 4), some (sR 36), some (sI m), some (sI w), some (sI (4 * (o1 : Int))), some (sI (4 * (o2 : Int))), some (sI A1), some (sI A2)] [] g := by
          intro g r hf hg hr hfa
          refine zrun_sound t_X5_leave C E [121] 20 _ _ _ _ ?_
          exact loop 4 0 g r (by omega) hf hr hfa hh (fun p' m' y' a1 a2 a3 => by rw [hg m']; exact nil p' m' y' a1 a2 a3)
        obtain ⟨hab1, hab2⟩ := hab
        refine And.intro (by omega) (And.intro (by omega) (And.intro (fun c4 => ?_) (fun c4 => ?_)))
        · rcases hab2 with hab2 | ⟨r, hr, hfa⟩
          · omega
          · exact zJ_le (h118 h r (fr_rfl _ _) (fun _ => rfl) hr hfa) (And.intro rfl (And.intro rfl (And.intro rfl (And.intro rfl (And.intro rfl (And.intro rfl (And.intro rfl (And.intro (by rw [hA2]) trivial)))))))) rfl rfl
        · refine And.intro (by omega) (And.intro (by omega) ?_)
          rw [ew]
          refine zcall_i (d' := d - 1) (by omega) (c_X4_firstAbove h (h.1 29 w) m r29 (by omega) hrow) ?_
          rintro o g ⟨rfl, r, rfl, r1, r2, r3, r4⟩
          refine And.intro (by omega) (And.intro (by omega) ?_)
          exact zJ_le (h118 (setI h 38 w r) r (fr_setI (fr_rfl _ _) (by simp)) (fun _ => rfl) (by rw [setI_at, if_pos ⟨rfl, rfl⟩]) ⟨r1, r2, r3, r4⟩) (And.intro rfl (And.intro rfl (And.intro rfl (And.intro rfl (And.intro rfl (And.intro rfl (And.intro rfl (And.intro (by rw [hA2]) trivial)))))))) rfl rfl
      · exact And.intro rfl (And.intro (fr_rfl _ _) (And.intro hab (none_b (Or.inl (by omega)))))
