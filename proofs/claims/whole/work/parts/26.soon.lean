def frP : Nat → Nat → Bool := fun c i => c == 33 || c == 34 || c == 37 || (c == 3 && (i == 3 || i == 4)) || (c == 4 && i == 6)
set_option maxHeartbeats 8000000 in
theorem c_X5_prepare {d : Nat} (hd : 4 ≤ d) (h : zH) (st : Int) (σ t s n P N : Nat) (hV : VV h) (hI : Isea h) (hst : 0 ≤ st ∧ st ≤ 39) (e1 : st / 10 = σ) (e2 : st % 10 = t) (ht : (t : Int) < h.1 2 0) (hn : h.1 2 4 = n) (hs : 1 ≤ s ∧ s < 2 ^ n) (hP : h.1 2 8 = P) (hN : h.1 2 10 = N) :
    zC d k_X5_prepare [sR 4, sI st, sI s] h (fun o g => o = none ∧ fr frP h g ∧ SP g σ P N ∧ g.2 4 6 = -1 ∧ g.1 3 3 = t ∧ g.1 3 4 = s ∧ (∀ m : Nat, m < 1440 → g.1 33 m = tideF (h.1 19) (h.1 20) (h.1 21) t m) ∧ ∀ m : Nat, m < 1440 → g.1 34 m = hiF (-1000) (seaC h t m) s n) := by
  obtain ⟨hVn, hVt, hVw, hVp, hVy, hVh, hVs⟩ := hV
  obtain ⟨hv1, hv2, hv3, hv4, hv5⟩ := id hVn
  refine zC_of (by decide +kernel) (Nat.le_of_ble_eq_true rfl) (fun X C E => ?_)
  have hsea : ∀ m : Nat, -1000 ≤ hiF (-1000) (seaC h t m) s n ∧ hiF (-1000) (seaC h t m) s n ≤ 1098 := fun m => hiF_b (by omega) n (fun w hw => by
    have := seaF_b (ea := h.1 23) (m := (m : Int)) (w := w) (hVt t ht) (hVw w (by omega)).1
    show -1000 ≤ seaF _ _ _ _ _ _ _ _ ∧ seaF _ _ _ _ _ _ _ _ ≤ 1098
    omega)
  have ways : ∀ (f w : Nat) (g : zH), w + f = N → fr frP h g → g.2 4 6 = -1 → g.1 3 3 = t → g.1 3 4 = s → (∀ m : Nat, m < 1440 → g.1 33 m = tideF (h.1 19) (h.1 20) (h.1 21) t m) → (∀ m : Nat, m < 1440 → g.1 34 m = hiF (-1000) (seaC h t m) s n) → (∀ w' y : Nat, w' < w → y < 4 → g.1 37 (4 * w' + y) = takeF (h.1 28 w') (h.1 32 σ) y) →
      zJ X 21 [some (sR 4), some (sI st), none, some (sI w)] [] g := by
    intro f
    induction f with
    | zero =>
      intro w g hw hf a1 a2 a3 a4 a5 a6
      have e210 : g.1 2 10 = N := by rw [(hf 2 10 rfl).1, hN]
      have ew : w = N := by omega
      subst ew
      refine zrun_sound t_X5_prepare C E [] 60 _ _ _ _ ?_
      refine And.intro (by omega) (And.intro (by omega) (And.intro (fun c => ?_) (fun c => absurd c (by omega))))
      refine And.intro rfl (And.intro hf (And.intro ?_ (And.intro a1 (And.intro a2 (And.intro a3 (And.intro a4 a5))))))
      refine ⟨e210, by omega, by rw [(hf 2 8 rfl).1, hP], by omega, by omega, fun v hv => ?_, fun v hv => ?_, ?_, fun v hv => ?_, fun m hm => ?_, fun p hp => ?_, fun v y hv hy => ?_⟩
      · rw [(hf 26 v rfl).1, (hf 27 v rfl).1]
        have := hVy v (by omega)
        exact ⟨by omega, by omega, this.2.2.1⟩
      · rw [(hf 28 v rfl).1]
        exact (hVy v (by omega)).2.2.2
      · rw [(hf 32 σ rfl).1]
        exact hVs σ (by omega)
      · rw [(hf 29 v rfl).1, (hf 30 v rfl).1, (hf 31 v rfl).1]
        have := hVh v (by omega)
        omega
      · rw [a5 m hm]
        have := hsea m
        omega
      · rw [(hf 25 p rfl).1]
        have := hVp p hp
        omega
      · rw [a6 v y hv hy, (hf 28 v rfl).1, (hf 32 σ rfl).1]
    | succ f ih =>
      intro w g hw hf a1 a2 a3 a4 a5 a6
      have e210 : g.1 2 10 = N := by rw [(hf 2 10 rfl).1, hN]
      have hl := (hVy w (by omega)).2.2.2
      have hh := hVs σ (by omega)
      have inner : ∀ (f y : Nat) (g : zH), y + f = 4 → fr frP h g → g.2 4 6 = -1 → g.1 3 3 = t → g.1 3 4 = s → (∀ m : Nat, m < 1440 → g.1 33 m = tideF (h.1 19) (h.1 20) (h.1 21) t m) → (∀ m : Nat, m < 1440 → g.1 34 m = hiF (-1000) (seaC h t m) s n) → (∀ w' y : Nat, w' < w → y < 4 → g.1 37 (4 * w' + y) = takeF (h.1 28 w') (h.1 32 σ) y) → (∀ y' : Nat, y' < y → g.1 37 (4 * w + y') = takeF (h.1 28 w) (h.1 32 σ) y') →
          zJ X 35 [some (sR 4), some (sI st), none, some (sI w), some (sI y)] [] g := by
        intro f2
        induction f2 with
        | zero =>
          intro y g hy hf b1 b2 b3 b4 b5 b6 b7
          refine zrun_sound t_X5_prepare C E [21] 60 _ _ _ _ ?_
          refine And.intro (by omega) (And.intro (by omega) (And.intro (fun c => ?_) (fun c => absurd (show (3 : Int) < y by omega) c)))
          refine zJ_le (ih (w + 1) g (by omega) hf b1 b2 b3 b4 b5 (fun w' y' c1 c2 => ?_)) (And.intro rfl (And.intro rfl (And.intro rfl trivial))) rfl rfl
          by_cases ew : w' = w
          · subst ew; exact b7 y' (by omega)
          · exact b6 w' y' (by omega) c2
        | succ f2 ih2 =>
          intro y g hy hf b1 b2 b3 b4 b5 b6 b7
          have ei : (4 * (w : Int) + y).toNat = 4 * w + y := by omega
          have f28 : g.1 28 w = h.1 28 w := (hf 28 w rfl).1
          have f32 : g.1 32 σ = h.1 32 σ := (hf 32 σ rfl).1
          refine zrun_sound t_X5_prepare C E [35] 60 _ _ _ _ ?_
          refine And.intro (by omega) (And.intro (by omega) (And.intro (fun c => absurd c (by omega)) (fun c => ?_)))
          refine And.intro (by omega) (And.intro (by omega) ?_)
          rw [e1]
          refine zcall_i (d' := d - 1) (by omega) (c_X2_taking g w σ y (by omega) (by omega) (by omega) (by rw [f28]; exact hl) (by rw [f32]; exact hh)) ?_
          rintro o g' ⟨rfl, rfl⟩
          refine And.intro (by omega) (And.intro (by omega) ?_)
          rw [ei]
          refine zJ_le (ih2 (y + 1) (setI g 37 (4 * w + y) (takeF (g.1 28 w) (g.1 32 σ) y)) (by omega) (fr_setI hf rfl) b1 b2 b3 b4 b5 (fun w' y' c1 c2 => ?_) (fun y' c1 => ?_)) (And.intro rfl (And.intro rfl (And.intro rfl (And.intro rfl trivial)))) rfl rfl
          · rw [setI_at, if_neg (fun q => by omega)]
            exact b6 w' y' c1 c2
          · rw [setI_at, f28, f32]
            by_cases ey : y' = y
            · rw [if_pos ⟨rfl, by omega⟩, ey]
            · rw [if_neg (fun q => by omega)]
              exact b7 y' (by omega)
      refine zrun_sound t_X5_prepare C E [35] 60 _ _ _ _ ?_
      refine And.intro (by omega) (And.intro (by omega) (And.intro (fun c => absurd c (by omega)) (fun c => ?_)))
      exact zJ_le (inner 4 0 g (by omega) hf a1 a2 a3 a4 a5 a6 (fun y' c1 => absurd c1 (by omega))) (And.intro rfl (And.intro rfl (And.intro rfl (And.intro rfl trivial)))) rfl rfl
  refine zrun_sound t_X5_prepare C E [21] 60 _ _ _ _ ?_
  refine And.intro (by omega) (And.intro (by omega) ?_)
  rw [e2]
  refine zcall_i (d' := d - 1) (by omega) (c_X4_rise (by omega) h t s n hVn hVt hVw hI ht hn hs) ?_
  rintro o g ⟨rfl, hf, b1, b2, b3, b4⟩
  refine zJ_le (ways N 0 (setL g 4 6 (-1)) (by omega) (fr_setL (fr_sub hf (fun c i q => by simp [frP] at q ⊢; omega)) rfl) (by rw [setL_at, if_pos ⟨rfl, rfl⟩]) b1 b2 b3 b4 (fun w' y c1 _ => absurd c1 (by omega))) (And.intro rfl (And.intro rfl (And.intro rfl trivial))) rfl rfl
theorem c_X5_barWaiting {d : Nat} (h : zH) (p : Nat) (hp : p < 12) : zC d k_X5_barWaiting [sR 4, sI p] h (fun o g => o = none ∧ ∃ r : Int64, g = setL h 4 6 r ∧ ∀ q y : Nat, q < 12 → y < 4 → (lb r (4 * q + y) = true ↔ ¬ q = p)) := by
  refine zC_of (by decide +kernel) (Nat.le_of_ble_eq_true rfl) (fun X C E => zrun_sound t_X5_barWaiting C E [] 40 _ _ _ _ ?_)
  refine And.intro rfl ⟨_, rfl, fun q y hq hy => ?_⟩
  rw [lb_xor, lb_m1 _ (by omega), lb_place (by omega) (by omega) _ (by omega), show (4 * (p : Int)).toNat = 4 * p by omega]
  simp
  omega
/-- the first minute at which a place is reached, e at most; -2: none -/
def soonR (S : Nat → Nat → Nat → Nat → Nat → Nat → Prop) (p0 m0 to e : Nat) (r : Int) : Prop := (r = -2 ∧ ∀ m y : Nat, m ≤ e → ¬ RdS S p0 m0 to m y) ∨ (∃ m : Nat, r = m ∧ m ≤ e ∧ (∃ y, RdS S p0 m0 to m y) ∧ ∀ m' y : Nat, m' < m → ¬ RdS S p0 m0 to m' y)
theorem soonR_u {S : Nat → Nat → Nat → Nat → Nat → Nat → Prop} {p0 m0 to e : Nat} {r r' : Int} (a : soonR S p0 m0 to e r) (b : soonR S p0 m0 to e r') : r = r' := by
  rcases a with ⟨rfl, a⟩ | ⟨m, rfl, a1, ⟨y, a2⟩, a3⟩
  · rcases b with ⟨rfl, -⟩ | ⟨m', rfl, b1, ⟨y', b2⟩, -⟩
    · rfl
    · exact absurd b2 (a m' y' b1)
  · rcases b with ⟨rfl, b⟩ | ⟨m', rfl, b1, ⟨y', b2⟩, b3⟩
    · exact absurd a2 (b m y a1)
    · rcases Nat.lt_trichotomy m m' with q | q | q
      · exact absurd a2 (b3 m y q)
      · rw [q]
      · exact absurd b2 (a3 m' y' q)
theorem goal_m {to : Nat} (ht : to < 12) {p y : Nat} (hp : p < 12) (hy : y < 4) : lb (shl64 15 (4 * (to : Int))) (4 * p + y) = true ↔ p = to := by
  rw [lb_place (by omega) (by omega) _ (by omega), show (4 * (to : Int)).toNat = 4 * to by omega]
  simp
  omega
theorem c_X5_soonest {d : Nat} (hd : 5 ≤ d) (h : zH) (σ P N : Nat) (fm : Int) (p0 m0 to e : Nat) (hS : SP h σ P N) (hfm : 0 ≤ fm ∧ fm ≤ 2000000) (e1 : fm / 10000 = p0) (e2 : fm % 10000 = m0) (hp0 : p0 < P) (hm0 : m0 < 1440) (ht : to < 12) (he : e < 1440) :
    zC d k_X5_soonest [sR 4, sI fm, sI to, sI e] h (fun o g => fr (fun c _ => c == 35 || c == 38) h g ∧ ∃ r : Int, o = some (sI r) ∧ soonR (SC h σ N) p0 m0 to e r) := by
  have hin := fun p m y (hr : RdS (SC h σ N) p0 m0 p m y) => RdS_in (SC_ok hS) hp0 hm0 hr
  have hP12 := hS.2.2.2.1
  refine zC_of (by decide +kernel) (Nat.le_of_ble_eq_true rfl) (fun X C E => zrun_sound t_X5_soonest C E [] 40 _ _ _ _ ?_)
  refine zcall_i (d' := d - 1) (by omega) (c_X5_spread_35 (by omega) h σ P N fm p0 m0 e (shl64 15 (4 * (to : Int))) hS hfm e1 e2 hp0 hm0 he (fun j hj hl => ?_)) ?_
  · rw [lb_place (by omega) (by omega) _ hj] at hl
    simp at hl
    omega
  · rintro o g ⟨hf, hc⟩
    rcases hc with ⟨rfl, h1, -⟩ | ⟨m, rfl, h1, ⟨p, y, h2, h3⟩, h4⟩
    · refine And.intro hf ⟨_, rfl, Or.inl ⟨rfl, fun m y hm hr => ?_⟩⟩
      have hi := hin to m y hr
      have := h1 to m y hm hr
      rw [(goal_m ht ht hi.2.2.2).mpr rfl] at this
      cases this
    · have hi := hin p m y h2
      have hpt := (goal_m ht (by omega) hi.2.2.2).mp h3
      subst hpt
      refine And.intro hf ⟨_, rfl, Or.inr ⟨m, rfl, h1, ⟨y, h2⟩, fun m' y' hm' hr => ?_⟩⟩
      have hi' := hin p m' y' hr
      have := h4 p m' y' hm' hr
      rw [(goal_m ht ht hi'.2.2.2).mpr rfl] at this
      cases this
