/-! ===== the reference lays the sea out ===== -/
def seaR (h : zH) (t : Nat) (m : Int) : Nat → Int := fun w => seaF (h.1 58) (h.1 59) (h.1 60) (h.1 63) (h.1 64) t w m
def cntF (f : Nat → Bool) : Nat → Int
  | 0 => 0
  | n + 1 => cntF f n + (if f n = true then 1 else 0)
theorem cntF_s (f : Nat → Bool) (n : Nat) : cntF f (n + 1) = cntF f n + (if f n = true then 1 else 0) := rfl
theorem cntF_b (f : Nat → Bool) : ∀ n, 0 ≤ cntF f n ∧ cntF f n ≤ n
  | 0 => by unfold cntF; omega
  | n + 1 => by
    have := cntF_b f n
    unfold cntF
    split <;> omega
theorem cntF_up (f : Nat → Bool) (a : Nat) : ∀ k, cntF f a ≤ cntF f (a + k) ∧ (cntF f (a + k) = cntF f a ↔ ∀ j, a ≤ j → j < a + k → f j = false)
  | 0 => ⟨Int.le_refl _, ⟨fun _ j h1 h2 => absurd h2 (by omega), fun _ => rfl⟩⟩
  | k + 1 => by
    obtain ⟨h1, h2⟩ := cntF_up f a k
    have e : cntF f (a + (k + 1)) = cntF f (a + k) + (if f (a + k) = true then 1 else 0) := rfl
    rw [e]
    refine ⟨by split <;> omega, ?_⟩
    constructor
    · intro h j hj1 hj2
      have e2 : cntF f (a + k) = cntF f a := by
        revert h
        split <;> intro h <;> omega
      by_cases hj : j = a + k
      · subst hj
        cases hf : f (a + k) with
        | false => rfl
        | true => rw [hf, if_pos rfl] at h; omega
      · exact h2.mp e2 j hj1 (by omega)
    · intro h
      rw [h2.mpr (fun j a1 a2 => h j a1 (by omega)), h (a + k) (by omega) (by omega), if_neg (by simp)]
      omega
def beR (h : zH) (w : Nat) : Int := h.1 53 (12 + w) + (if h.1 52 32 = (w : Int) then h.1 52 33 else 0)
def hiR (h : zH) (t s n : Nat) (m : Nat) : Int := hiF (-2000000000) (seaR h t m) s n
/-- what is laid out: the sort, the heights of the sea, dry places, minutes too high up to one -/
def Lay (h : zH) (σ : Nat) (hi be : Nat → Int) (P N : Nat) : Prop := h.1 52 27 = σ ∧ (∀ m : Nat, m < 1440 → h.1 69 m = hi m) ∧ (∀ p m : Nat, p < P → m < 1440 → h.1 71 (1440 * p + m) = if hi m ≤ h.1 53 p then 1 else 0) ∧ ∀ w m : Nat, w < N → m ≤ 1440 → h.1 70 (1441 * w + m) = cntF (fun j => decide (be w < hi j)) m
/-- what the reference's rows must be for it -/
def VR (h : zH) (t n P N : Nat) : Prop := h.1 52 16 = n ∧ h.1 52 20 = P ∧ h.1 52 21 = N ∧ (1 ≤ n ∧ n ≤ 5) ∧ P ≤ 12 ∧ N ≤ 24 ∧ t < 10 ∧ TOK (h.1 58) (h.1 59) (h.1 60) t ∧ (∀ w : Nat, w < n → (-99 ≤ h.1 63 w ∧ h.1 63 w ≤ 99) ∧ (-60 ≤ h.1 64 w ∧ h.1 64 w ≤ 60)) ∧ (∀ i : Nat, i < 88 → 0 ≤ h.1 53 i ∧ h.1 53 i ≤ 1439) ∧ inR (h.1 52 32) ∧ (0 ≤ h.1 52 33 ∧ h.1 52 33 ≤ 200)
def frL : Nat → Nat → Bool := fun c i => c == 69 || c == 70 || c == 71 || (c == 52 && i == 27)
theorem hiR_b {h : zH} {t n P N s : Nat} (hV : VR h t n P N) (m : Nat) : -2000000000 ≤ hiR h t s n m ∧ hiR h t s n m ≤ 1098 := by
  obtain ⟨-, -, -, -, -, -, -, hok, hw, -, -, -⟩ := hV
  refine hiF_b (by omega) n (fun w hw' => ?_)
  have := seaF_b (ea := h.1 64) (m := (m : Int)) (w := w) hok (hw w hw').1
  show -2000000000 ≤ seaF _ _ _ _ _ _ _ _ ∧ seaF _ _ _ _ _ _ _ _ ≤ 1098
  omega
set_option maxHeartbeats 8000000 in
theorem c_X9_layOut {d : Nat} (hd : 3 ≤ d) (h : zH) (st : Int) (σ t s n P N : Nat) (hst : 0 ≤ st ∧ st ≤ 39) (e1 : st / 10 = σ) (e2 : st % 10 = t) (hV : VR h t n P N) (hs : s < 32) :
    zC d k_X9_layOut [sR 52, sI st, sI s] h (fun o g => o = none ∧ fr frL h g ∧ Lay g σ (hiR h t s n) (beR h) P N) := by
  have hV2 := hV
  obtain ⟨hn, hP, hN, hn5, hP12, hN24, ht, hok, hw, hmay, hmw, hmo⟩ := hV
  have hib := hiR_b (s := s) hV2
  refine zC_of (by decide +kernel) (Nat.le_of_ble_eq_true rfl) (fun X C E => ?_)
  -- the ways
  have wayIn : ∀ (f m : Nat) (w : Nat) (g : zH), m + f = 1440 → w < N → fr frL h g → g.1 52 27 = σ → (∀ m : Nat, m < 1440 → g.1 69 m = hiR h t s n m) → (∀ p m : Nat, p < P → m < 1440 → g.1 71 (1440 * p + m) = if hiR h t s n m ≤ h.1 53 p then 1 else 0) → (∀ w' m' : Nat, w' < w → m' ≤ 1440 → g.1 70 (1441 * w' + m') = cntF (fun j => decide (beR h w' < hiR h t s n j)) m') → (∀ m' : Nat, m' ≤ m → g.1 70 (1441 * w + m') = cntF (fun j => decide (beR h w < hiR h t s n j)) m') →
      (∀ g : zH, fr frL h g → g.1 52 27 = σ → (∀ m : Nat, m < 1440 → g.1 69 m = hiR h t s n m) → (∀ p m : Nat, p < P → m < 1440 → g.1 71 (1440 * p + m) = if hiR h t s n m ≤ h.1 53 p then 1 else 0) → (∀ w' m' : Nat, w' < w + 1 → m' ≤ 1440 → g.1 70 (1441 * w' + m') = cntF (fun j => decide (beR h w' < hiR h t s n j)) m') → zJ X 161 [some (sR 52), some (sI st), some (sI s), some (sI ((w : Int) + 1))] [] g) →
      zJ X 215 [some (sR 52), some (sI st), some (sI s), some (sI w), some (sI (1441 * (w : Int))), some (sI (beR h w)), some (sI m)] [] g := by
    intro f
    induction f with
    | zero =>
      intro m w g hm hw24 hf h1 h2 h3 h4 h5 hk
      refine zrun_sound t_X9_layOut C E [161] 60 _ _ _ _ ?_
      refine And.intro (by omega) (And.intro (by omega) (And.intro (fun c => ?_) (fun c => absurd c (by omega))))
      refine zJ_le (hk g hf h1 h2 h3 (fun w' m' a b => ?_)) (And.intro rfl (And.intro rfl (And.intro rfl (And.intro rfl trivial)))) rfl rfl
      by_cases e : w' = w
      · subst e; exact h5 m' (by omega)
      · exact h4 w' m' (by omega) b
    | succ f ih =>
      intro m w g hm hw24 hf h1 h2 h3 h4 h5 hk
      have ei : (1441 * (w : Int) + m).toNat = 1441 * w + m := by omega
      have ej : (1441 * (w : Int) + m + 1).toNat = 1441 * w + (m + 1) := by omega
      have em : ((m : Int)).toNat = m := rfl
      have hb := hib m
      have hc := cntF_b (fun j => decide (beR h w < hiR h t s n j)) m
      have hbe : 0 ≤ beR h w ∧ beR h w ≤ 1639 := by
        have := hmay (12 + w) (by omega)
        unfold beR
        split <;> omega
      have e5 := h5 m (Nat.le_refl _)
      have e6 := h2 m (by omega)
      have goon : ∀ x : Int, x = cntF (fun j => decide (beR h w < hiR h t s n j)) (m + 1) → zJ X 215 [some (sR 52), some (sI st), some (sI s), some (sI w), some (sI (1441 * (w : Int))), some (sI (beR h w)), some (sI ((m : Int) + 1))] [] (setI g 70 (1441 * w + (m + 1)) x) := by
        intro x hx
        refine zJ_le (ih (m + 1) w (setI g 70 (1441 * w + (m + 1)) x) (by omega) hw24 (fr_setI hf rfl) h1 h2 h3 (fun w' m' a b => ?_) (fun m' a => ?_) hk) (And.intro rfl (And.intro rfl (And.intro rfl (And.intro rfl (And.intro rfl (And.intro rfl (And.intro rfl trivial))))))) rfl rfl
        · rw [setI_at, if_neg (fun q => by omega)]
          exact h4 w' m' a b
        · rw [setI_at]
          by_cases e : m' = m + 1
          · rw [if_pos ⟨rfl, by omega⟩, hx, e]
          · rw [if_neg (fun q => by omega)]
            exact h5 m' (by omega)
      refine zrun_sound t_X9_layOut C E [215] 80 _ _ _ _ ?_
      refine And.intro (by omega) (And.intro (by omega) (And.intro (fun c => absurd c (by omega)) (fun c => ?_)))
      refine And.intro (by omega) (And.intro (by omega) ?_)
      refine And.intro (by omega) (And.intro (by omega) ?_)
      refine And.intro (by rw [em, e6]; omega) (And.intro (by omega) (And.intro (fun c2 => ?_) (fun c2 => ?_)))
      · rw [em, e6] at c2
        refine And.intro (by omega) (And.intro (by omega) ?_)
        rw [ej, ei, e5]
        refine goon _ ?_
        rw [cntF_s, if_neg (by simp; omega)]
      · rw [em, e6] at c2
        refine And.intro (by omega) (And.intro (by omega) ?_)
        rw [ej, ei, e5]
        refine goon _ ?_
        rw [cntF_s, if_pos (by simp; omega)]
  have ways : ∀ (f w : Nat) (g : zH), w + f = N → fr frL h g → g.1 52 27 = σ → (∀ m : Nat, m < 1440 → g.1 69 m = hiR h t s n m) → (∀ p m : Nat, p < P → m < 1440 → g.1 71 (1440 * p + m) = if hiR h t s n m ≤ h.1 53 p then 1 else 0) → (∀ w' m' : Nat, w' < w → m' ≤ 1440 → g.1 70 (1441 * w' + m') = cntF (fun j => decide (beR h w' < hiR h t s n j)) m') →
      zJ X 161 [some (sR 52), some (sI st), some (sI s), some (sI w)] [] g := by
    intro f
    induction f with
    | zero =>
      intro w g hw24 hf h1 h2 h3 h4
      have e52 : g.1 52 21 = N := by rw [(hf 52 21 rfl).1, hN]
      refine zrun_sound t_X9_layOut C E [] 60 _ _ _ _ ?_
      refine And.intro (by omega) (And.intro (by omega) (And.intro (fun c => ?_) (fun c => absurd c (by omega))))
      refine And.intro rfl (And.intro hf (And.intro h1 (And.intro h2 (And.intro (fun p m hp hm => ?_) (fun w' m hw' hm => ?_)))))
      · rw [h3 p m hp hm, (hf 53 p rfl).1]
      · exact h4 w' m (by omega) hm
    | succ f ih =>
      intro w g hw24 hf h1 h2 h3 h4
      have e52 : g.1 52 21 = N := by rw [(hf 52 21 rfl).1, hN]
      have e32 : g.1 52 32 = h.1 52 32 := (hf 52 32 rfl).1
      have e33 : g.1 52 33 = h.1 52 33 := (hf 52 33 rfl).1
      have ei : (12 + (w : Int)).toNat = 12 + w := by omega
      have e53 : g.1 53 (12 + w) = h.1 53 (12 + w) := (hf 53 _ rfl).1
      have ek : (1441 * (w : Int)).toNat = 1441 * w := by omega
      have hbd := hmay (12 + w) (by omega)
      have goon : zJ X 215 [some (sR 52), some (sI st), some (sI s), some (sI w), some (sI (1441 * (w : Int))), some (sI (beR h w)), some (sI ((0 : Nat) : Int))] [] (setI g 70 (1441 * w) 0) := by
        refine wayIn 1440 0 w (setI g 70 (1441 * w) 0) (by omega) (by omega) (fr_setI hf rfl) h1 h2 h3 (fun w' m' a b => ?_) (fun m' a => ?_) (fun g' a1 a2 a3 a4 a5 => ?_)
        · rw [setI_at, if_neg (fun q => by omega)]
          exact h4 w' m' a b
        · rw [setI_at, if_pos ⟨rfl, by omega⟩, show m' = 0 by omega]
          rfl
        · exact zJ_le (ih (w + 1) g' (by omega) a1 a2 a3 a4 a5) (And.intro rfl (And.intro rfl (And.intro rfl (And.intro rfl trivial)))) rfl rfl
      refine zrun_sound t_X9_layOut C E [215] 90 _ _ _ _ ?_
      refine And.intro (by omega) (And.intro (by omega) (And.intro (fun c => absurd c (by omega)) (fun c => ?_)))
      refine And.intro (by omega) (And.intro (by omega) ?_)
      refine And.intro (by omega) (And.intro (by rw [e32]; exact hmw) (And.intro (fun c2 => ?_) (fun c2 => ?_)))
      · rw [e32] at c2
        refine And.intro (by omega) (And.intro (by omega) ?_)
        rw [ei, e53, ek]
        refine zJ_le goon (And.intro rfl (And.intro rfl (And.intro rfl (And.intro rfl (And.intro rfl (And.intro ?_ (And.intro rfl trivial))))))) rfl rfl
        unfold beR
        rw [if_neg (fun q => c2 q.symm)]
      · rw [e32] at c2
        refine And.intro (by omega) (And.intro (by omega) ?_)
        rw [ei, e53, ek, e33]
        refine zJ_le goon (And.intro rfl (And.intro rfl (And.intro rfl (And.intro rfl (And.intro rfl (And.intro ?_ (And.intro rfl trivial))))))) rfl rfl
        unfold beR
        rw [if_pos c2.symm]
  have plIn : ∀ (f m p : Nat) (g : zH), m + f = 1440 → p < P → fr frL h g → g.1 52 27 = σ → (∀ m : Nat, m < 1440 → g.1 69 m = hiR h t s n m) → (∀ p' m' : Nat, p' < p → m' < 1440 → g.1 71 (1440 * p' + m') = if hiR h t s n m' ≤ h.1 53 p' then 1 else 0) → (∀ m' : Nat, m' < m → g.1 71 (1440 * p + m') = if hiR h t s n m' ≤ h.1 53 p then 1 else 0) →
      (∀ g : zH, fr frL h g → g.1 52 27 = σ → (∀ m : Nat, m < 1440 → g.1 69 m = hiR h t s n m) → (∀ p' m' : Nat, p' < p + 1 → m' < 1440 → g.1 71 (1440 * p' + m') = if hiR h t s n m' ≤ h.1 53 p' then 1 else 0) → zJ X 94 [some (sR 52), some (sI st), some (sI s), some (sI ((p : Int) + 1))] [] g) →
      zJ X 105 [some (sR 52), some (sI st), some (sI s), some (sI p), some (sI m)] [] g := by
    intro f
    induction f with
    | zero =>
      intro m p g hm hp hf h1 h2 h3 h4 hk
      refine zrun_sound t_X9_layOut C E [94] 60 _ _ _ _ ?_
      refine And.intro (by omega) (And.intro (by omega) (And.intro (fun c => ?_) (fun c => absurd c (by omega))))
      refine zJ_le (hk g hf h1 h2 (fun p' m' a b => ?_)) (And.intro rfl (And.intro rfl (And.intro rfl (And.intro rfl trivial)))) rfl rfl
      by_cases e : p' = p
      · subst e; exact h4 m' (by omega)
      · exact h3 p' m' (by omega) b
    | succ f ih =>
      intro m p g hm hp hf h1 h2 h3 h4 hk
      have ei : (1440 * (p : Int) + m).toNat = 1440 * p + m := by omega
      have em : ((m : Int)).toNat = m := rfl
      have ep : ((p : Int)).toNat = p := rfl
      have hb := hib m
      have e6 := h2 m (by omega)
      have e53 : g.1 53 p = h.1 53 p := (hf 53 p rfl).1
      have hbd := hmay p (by omega)
      have goon : ∀ x : Int, x = (if hiR h t s n m ≤ h.1 53 p then 1 else 0) → zJ X 105 [some (sR 52), some (sI st), some (sI s), some (sI p), some (sI ((m : Int) + 1))] [] (setI g 71 (1440 * p + m) x) := by
        intro x hx
        refine zJ_le (ih (m + 1) p (setI g 71 (1440 * p + m) x) (by omega) hp (fr_setI hf rfl) h1 h2 (fun p' m' a b => ?_) (fun m' a => ?_) hk) (And.intro rfl (And.intro rfl (And.intro rfl (And.intro rfl (And.intro rfl trivial))))) rfl rfl
        · rw [setI_at, if_neg (fun q => by omega)]
          exact h3 p' m' a b
        · rw [setI_at]
          by_cases e : m' = m
          · rw [if_pos ⟨rfl, by omega⟩, hx, e]
          · rw [if_neg (fun q => by omega)]
            exact h4 m' (by omega)
      refine zrun_sound t_X9_layOut C E [105] 80 _ _ _ _ ?_
      refine And.intro (by omega) (And.intro (by omega) (And.intro (fun c => absurd c (by omega)) (fun c => ?_)))
      refine And.intro (by omega) (And.intro (by omega) ?_)
      refine And.intro (by omega) (And.intro (by omega) ?_)
      refine And.intro (by rw [em, e6]; omega) (And.intro (by rw [ep, e53]; omega) (And.intro (fun c2 => ?_) (fun c2 => ?_)))
      · rw [em, e6, ep, e53] at c2
        refine And.intro (by omega) (And.intro (by omega) (And.intro (by omega) ?_))
        rw [ei]
        exact goon _ (by rw [if_neg (by omega)])
      · rw [em, e6, ep, e53] at c2
        refine And.intro (by omega) (And.intro (by omega) (And.intro (by omega) ?_))
        rw [ei]
        exact goon _ (by rw [if_pos (by omega)])
  have plcs : ∀ (f p : Nat) (g : zH), p + f = P → fr frL h g → g.1 52 27 = σ → (∀ m : Nat, m < 1440 → g.1 69 m = hiR h t s n m) → (∀ p' m' : Nat, p' < p → m' < 1440 → g.1 71 (1440 * p' + m') = if hiR h t s n m' ≤ h.1 53 p' then 1 else 0) → zJ X 94 [some (sR 52), some (sI st), some (sI s), some (sI p)] [] g := by
    intro f
    induction f with
    | zero =>
      intro p g hp hf h1 h2 h3
      have e52 : g.1 52 20 = P := by rw [(hf 52 20 rfl).1, hP]
      refine zrun_sound t_X9_layOut C E [161] 60 _ _ _ _ ?_
      refine And.intro (by omega) (And.intro (by omega) (And.intro (fun c => ?_) (fun c => absurd c (by omega))))
      exact zJ_le (ways N 0 g (by omega) hf h1 h2 (fun p' m a b => h3 p' m (by omega) b) (fun w' m' a b => absurd a (by omega))) (And.intro rfl (And.intro rfl (And.intro rfl (And.intro rfl trivial)))) rfl rfl
    | succ f ih =>
      intro p g hp hf h1 h2 h3
      have e52 : g.1 52 20 = P := by rw [(hf 52 20 rfl).1, hP]
      refine zrun_sound t_X9_layOut C E [105] 60 _ _ _ _ ?_
      refine And.intro (by omega) (And.intro (by omega) (And.intro (fun c => absurd c (by omega)) (fun c => ?_)))
      refine zJ_le (plIn 1440 0 p g (by omega) (by omega) hf h1 h2 h3 (fun m' a => absurd a (by omega)) (fun g' a1 a2 a3 a4 => ?_)) (And.intro rfl (And.intro rfl (And.intro rfl (And.intro rfl (And.intro rfl trivial))))) rfl rfl
      exact zJ_le (ih (p + 1) g' (by omega) a1 a2 a3 a4) (And.intro rfl (And.intro rfl (And.intro rfl (And.intro rfl trivial)))) rfl rfl
  have mWind : ∀ (f j m : Nat) (g : zH), j + f = n → m < 1440 → fr frL h g → g.1 52 27 = σ →
      (zJ X 78 [some (sR 52), some (sI st), some (sI s), some (sI m), some (sI (hiR h t s n m))] [] g) →
      zJ X 24 [some (sR 52), some (sI st), some (sI s), some (sI m), some (sI (hiF (-2000000000) (seaR h t m) s j)), some (sI j)] [] g := by
    intro f
    induction f with
    | zero =>
      intro j m g hj hm hf h1 hk
      have e52 : g.1 52 16 = n := by rw [(hf 52 16 rfl).1, hn]
      refine zrun_sound t_X9_layOut C E [78] 60 _ _ _ _ ?_
      refine And.intro (by omega) (And.intro (by omega) (And.intro (fun c => ?_) (fun c => absurd c (by omega))))
      have ej : j = n := by omega
      subst ej
      exact zJ_le hk (And.intro rfl (And.intro rfl (And.intro rfl (And.intro rfl (And.intro rfl trivial))))) rfl rfl
    | succ f ih =>
      intro j m g hj hm hf h1 hk
      have e52 : g.1 52 16 = n := by rw [(hf 52 16 rfl).1, hn]
      have bt := (bit_tab s hs j (by omega)).2
      have f58 : g.1 58 = h.1 58 := funext fun i => (hf 58 i rfl).1
      have f59 : g.1 59 = h.1 59 := funext fun i => (hf 59 i rfl).1
      have f60 : g.1 60 = h.1 60 := funext fun i => (hf 60 i rfl).1
      have f63 : g.1 63 = h.1 63 := funext fun i => (hf 63 i rfl).1
      have f64 : g.1 64 = h.1 64 := funext fun i => (hf 64 i rfl).1
      have hmost : -2000000000 ≤ hiF (-2000000000) (seaR h t m) s j ∧ hiF (-2000000000) (seaR h t m) s j ≤ 1098 := hiF_b (by omega) j (fun w hw' => by
        have := seaF_b (ea := h.1 64) (m := (m : Int)) (w := w) hok (hw w (by omega)).1
        show -2000000000 ≤ seaF _ _ _ _ _ _ _ _ ∧ seaF _ _ _ _ _ _ _ _ ≤ 1098
        omega)
      have hsj := seaF_b (ea := h.1 64) (m := (m : Int)) (w := j) hok (hw j (by omega)).1
      have nx : zJ X 24 [some (sR 52), some (sI st), some (sI s), some (sI m), some (sI (hiF (-2000000000) (seaR h t m) s (j + 1))), some (sI ((j : Int) + 1))] [] g := zJ_le (ih (j + 1) m g (by omega) hm hf h1 hk) (And.intro rfl (And.intro rfl (And.intro rfl (And.intro rfl (And.intro rfl (And.intro rfl trivial)))))) rfl rfl
      refine zrun_sound t_X9_layOut C E [24] 90 _ _ _ _ ?_
      refine And.intro (by omega) (And.intro (by omega) (And.intro (fun c => absurd c (by omega)) (fun c => ?_)))
      refine And.intro (and32_in _ _) (And.intro (by omega) (And.intro (fun c2 => ?_) (fun c2 => ?_)))
      · rw [bt] at c2
        rw [hiF_0 (by omega)] at nx
        exact zJ_le nx (And.intro rfl (And.intro rfl (And.intro rfl (And.intro rfl (And.intro rfl (And.intro rfl trivial)))))) rfl rfl
      · rw [bt] at c2
        rw [hiF_1 (by omega)] at nx
        refine And.intro (by omega) (And.intro (by omega) ?_)
        rw [e2]
        refine zcall_i (d' := d - 1) (by omega) (c_X9_seaAt (by omega) g t j m ht (by omega) (by omega) (by rw [f58, f59, f60]; exact hok) (by rw [f64]; exact (hw j (by omega)).2)) ?_
        rintro o g' ⟨rfl, rfl⟩
        rw [f58, f59, f60, f63, f64]
        refine And.intro (by omega) (And.intro (by omega) (And.intro (fun c3 => ?_) (fun c3 => ?_)))
        · refine zJ_le nx (And.intro rfl (And.intro rfl (And.intro rfl (And.intro rfl (And.intro ?_ (And.intro rfl trivial)))))) rfl rfl
          have : max (hiF (-2000000000) (seaR h t m) s j) (seaR h t m j) = hiF (-2000000000) (seaR h t m) s j := Int.max_eq_left c3
          rw [this]
        · refine zJ_le nx (And.intro rfl (And.intro rfl (And.intro rfl (And.intro rfl (And.intro ?_ (And.intro rfl trivial)))))) rfl rfl
          have : max (hiF (-2000000000) (seaR h t m) s j) (seaR h t m j) = seaR h t m j := Int.max_eq_right (Int.le_of_lt (Int.not_le.mp c3))
          rw [this]
          rfl
  have mins : ∀ (f m : Nat) (g : zH), m + f = 1440 → fr frL h g → g.1 52 27 = σ → (∀ m' : Nat, m' < m → g.1 69 m' = hiR h t s n m') → zJ X 10 [some (sR 52), some (sI st), some (sI s), some (sI m)] [] g := by
    intro f
    induction f with
    | zero =>
      intro m g hm hf h1 h2
      refine zrun_sound t_X9_layOut C E [94] 60 _ _ _ _ ?_
      refine And.intro (by omega) (And.intro (by omega) (And.intro (fun c => ?_) (fun c => absurd c (by omega))))
      exact zJ_le (plcs P 0 g (by omega) hf h1 (fun m' a => h2 m' (by omega)) (fun p' m' a b => absurd a (by omega))) (And.intro rfl (And.intro rfl (And.intro rfl (And.intro rfl trivial)))) rfl rfl
    | succ f ih =>
      intro m g hm hf h1 h2
      refine zrun_sound t_X9_layOut C E [24] 60 _ _ _ _ ?_
      refine And.intro (by omega) (And.intro (by omega) (And.intro (fun c => absurd c (by omega)) (fun c => ?_)))
      refine zJ_le (mWind n 0 m g (by omega) (by omega) hf h1 ?_) (And.intro rfl (And.intro rfl (And.intro rfl (And.intro rfl (And.intro rfl (And.intro rfl trivial)))))) rfl rfl
      refine zrun_sound t_X9_layOut C E [10] 60 _ _ _ _ ?_
      refine And.intro (by omega) (And.intro (by omega) ?_)
      refine zJ_le (ih (m + 1) (setI g 69 m (hiR h t s n m)) (by omega) (fr_setI hf rfl) h1 (fun m' a => ?_)) (And.intro rfl (And.intro rfl (And.intro rfl (And.intro rfl trivial)))) rfl rfl
      rw [setI_at]
      by_cases e : m' = m
      · rw [if_pos ⟨rfl, e⟩, e]
      · rw [if_neg (fun q => e q.2)]
        exact h2 m' (by omega)
  refine zrun_sound t_X9_layOut C E [10] 60 _ _ _ _ ?_
  refine And.intro (by omega) (And.intro (by omega) ?_)
  rw [e1]
  refine zJ_le (mins 1440 0 (setI h 52 27 σ) (by omega) (fr_setI (fr_rfl _ _) rfl) ?_ (fun m' a => absurd a (by omega))) (And.intro rfl (And.intro rfl (And.intro rfl (And.intro rfl trivial)))) rfl rfl
  rw [setI_at, if_pos ⟨rfl, rfl⟩]
