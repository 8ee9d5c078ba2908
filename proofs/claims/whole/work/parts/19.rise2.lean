theorem hiF_0 {b : Int} {f : Nat → Int} {s n : Nat} (h : ¬ s / 2 ^ n % 2 = 1) : hiF b f s (n + 1) = hiF b f s n := by
  conv => lhs; unfold hiF
  rw [if_neg h]
theorem hiF_1 {b : Int} {f : Nat → Int} {s n : Nat} (h : s / 2 ^ n % 2 = 1) : hiF b f s (n + 1) = max (hiF b f s n) (f n) := by
  conv => lhs; unfold hiF
  rw [if_pos h]
set_option maxHeartbeats 4000000 in
theorem c_X4_rise {d : Nat} (hd : 3 ≤ d) (h : zH) (t s n : Nat) (hVn : Vn h) (hVt : Vt h) (hVw : Vw h) (hI : Isea h) (ht : (t : Int) < h.1 2 0) (hn : h.1 2 4 = n) (hs : 1 ≤ s ∧ s < 2 ^ n) :
    zC d k_X4_rise [sR 3, sI t, sI s] h (fun o g => o = none ∧ fr (fun c i => c == 33 || c == 34 || (c == 3 && (i == 3 || i == 4))) h g ∧ g.1 3 3 = t ∧ g.1 3 4 = s ∧ (∀ m : Nat, m < 1440 → g.1 33 m = tideF (h.1 19) (h.1 20) (h.1 21) t m) ∧ ∀ m : Nat, m < 1440 → g.1 34 m = hiF (-1000) (seaC h t m) s n) := by
  have hok := hVt t ht
  obtain ⟨hv1, hv2, -⟩ := hVn
  have hn5 : n ≤ 5 := by omega
  have hs32 : s < 32 := Nat.lt_of_lt_of_le hs.2 (Nat.pow_le_pow_right (by omega) hn5 : 2 ^ n ≤ 2 ^ 5)
  refine zC_of (by decide +kernel) (Nat.le_of_ble_eq_true rfl) (fun X C E => ?_)
  have winds : ∀ (f j : Nat) (g : zH), j + f = n → fr (fun c i => c == 33 || c == 34 || (c == 3 && (i == 3 || i == 4))) h g → g.1 3 3 = t → g.1 3 4 = s → (∀ m : Nat, m < 1440 → g.1 33 m = tideF (h.1 19) (h.1 20) (h.1 21) t m) → (∀ m : Nat, m < 1440 → g.1 34 m = hiF (-1000) (seaC h t m) s j) →
      zJ X 77 [some (sR 3), some (sI t), some (sI s), some (sI j)] [] g := by
    intro f
    induction f with
    | zero =>
      intro j g hj hf h1 h2 h3 h4
      have e24 : g.1 2 4 = n := by rw [(hf 2 4 rfl).1, hn]
      refine zrun_sound t_X4_rise C E [] 60 _ _ _ _ ?_
      refine And.intro (by omega) (And.intro (by omega) (And.intro (fun c => ?_) (fun c => absurd c (by omega))))
      have : j = n := by omega
      subst this
      exact And.intro rfl (And.intro hf (And.intro h1 (And.intro h2 (And.intro h3 h4))))
    | succ f ih =>
      intro j g hj hf h1 h2 h3 h4
      have e24 : g.1 2 4 = n := by rw [(hf 2 4 rfl).1, hn]
      have bt := (bit_tab s hs32 j (by omega)).1
      have vw := hVw j (by omega)
      refine zrun_sound t_X4_rise C E [77] 80 _ _ _ _ ?_
      refine And.intro (by omega) (And.intro (by omega) (And.intro (fun c => absurd c (by omega)) (fun c => ?_)))
      refine And.intro (and32_in _ _) (And.intro (fun c2 => ?_) (fun c2 => ?_))
      · rw [bt] at c2
        refine zJ_le (ih (j + 1) g (by omega) hf h1 h2 h3 (fun m hm => ?_)) (And.intro rfl (And.intro rfl (And.intro rfl (And.intro rfl trivial)))) rfl rfl
        rw [h4 m hm, hiF_0 (by omega)]
      · rw [bt] at c2
        refine And.intro (by omega) (And.intro (by omega) ?_)
        refine And.intro (by omega) (And.intro (by omega) ?_)
        have e22 : g.1 22 ((j : Int)).toNat = h.1 22 j := (hf 22 j rfl).1
        have e23 : g.1 23 ((j : Int)).toNat = h.1 23 j := (hf 23 j rfl).1
        rw [e22, e23]
        refine zcall_i (d' := d - 1) (by omega) (c_X4_raise (by omega) g (h.1 22 j) (h.1 23 j) vw.1 vw.2.1 (fun m hm => ?_) (fun m hm => ?_)) ?_
        · rw [h3 m hm]
          exact tideF_b hok
        · rw [h4 m hm]
          exact hiF_b (by omega) j (fun w hw => by
            have v2 := hVw w (by omega)
            have := seaF_b (ea := h.1 23) (m := (m : Int)) (w := w) hok v2.1
            show -1000 ≤ seaF _ _ _ _ _ _ _ _ ∧ seaF _ _ _ _ _ _ _ _ ≤ 1098
            omega)
        · rintro o g' ⟨rfl, hf', hm'⟩
          refine zJ_le (ih (j + 1) g' (by omega) (fr_trans hf (fr_sub hf' (fun c i q => by simp at q ⊢; omega))) (by rw [(hf' 3 3 rfl).1, h1]) (by rw [(hf' 3 4 rfl).1, h2]) (fun m hm => by rw [(hf' 33 m rfl).1, h3 m hm]) (fun m hm => ?_)) (And.intro rfl (And.intro rfl (And.intro rfl (And.intro rfl trivial)))) rfl rfl
          have hc : 0 ≤ clampM (m + h.1 23 j) ∧ clampM (m + h.1 23 j) ≤ 1439 := by unfold clampM; omega
          rw [hm' m hm, h4 m hm, h3 _ (by omega), Int.toNat_of_nonneg hc.1]
          rw [hiF_1 (by omega)]
          rfl
  have mid : ∀ g : zH, fr (fun c i => c == 33 || c == 34 || (c == 3 && (i == 3 || i == 4))) h g → (∀ m : Nat, m < 1440 → g.1 33 m = tideF (h.1 19) (h.1 20) (h.1 21) t m) → zJ X 55 [some (sR 3), some (sI t), some (sI s)] [] g := by
    intro g hf h3
    refine zrun_sound t_X4_rise C E [77] 60 _ _ _ _ ?_
    refine zcall_i (d' := d - 1) (by omega) (c_fillI_34 _ (-1000)) ?_
    rintro o g' ⟨rfl, hf', hm'⟩
    refine zJ_le (winds n 0 g' (by omega) ?_ ?_ ?_ (fun m hm => ?_) (fun m hm => ?_)) (And.intro rfl (And.intro rfl (And.intro rfl (And.intro rfl trivial)))) rfl rfl
    · exact fr_trans (fr_setI (fr_setI hf rfl) rfl) (fr_sub hf' (fun c i q => by simp at q ⊢; omega))
    · rw [(hf' 3 3 rfl).1]
      rfl
    · rw [(hf' 3 4 rfl).1]
      rfl
    · rw [(hf' 33 m rfl).1]
      exact h3 m hm
    · exact hm' m hm
  have tides : ∀ (f j : Nat) (g : zH), j + f = 1440 → fr (fun c i => c == 33 || c == 34 || (c == 3 && (i == 3 || i == 4))) h g → (∀ m : Nat, m < j → g.1 33 m = tideF (h.1 19) (h.1 20) (h.1 21) t m) → zJ X 27 [some (sR 3), some (sI t), some (sI s), some (sI j)] [] g := by
    intro f
    induction f with
    | zero =>
      intro j g hj hf h3
      refine zrun_sound t_X4_rise C E [55] 60 _ _ _ _ ?_
      refine And.intro (by omega) (And.intro (by omega) (And.intro (fun c => ?_) (fun c => absurd c (by omega))))
      exact zJ_le (mid g hf (fun m hm => h3 m (by omega))) (And.intro rfl (And.intro rfl (And.intro rfl trivial))) rfl rfl
    | succ f ih =>
      intro j g hj hf h3
      have e19 : g.1 19 = h.1 19 := funext fun i => (hf 19 i rfl).1
      have e20 : g.1 20 = h.1 20 := funext fun i => (hf 20 i rfl).1
      have e21 : g.1 21 = h.1 21 := funext fun i => (hf 21 i rfl).1
      refine zrun_sound t_X4_rise C E [27] 60 _ _ _ _ ?_
      refine And.intro (by omega) (And.intro (by omega) (And.intro (fun c => absurd c (by omega)) (fun c => ?_)))
      refine zcall_i (d' := d - 1) (by omega) (c_X2_tideAt (by omega) g t j (by omega) (by omega) (by rw [e19, e20, e21]; exact hok)) ?_
      rintro o g' ⟨rfl, rfl⟩
      refine And.intro (by omega) (And.intro (by omega) ?_)
      refine zJ_le (ih (j + 1) (setI g 33 j (tideF (g.1 19) (g.1 20) (g.1 21) t j)) (by omega) (fr_setI hf rfl) (fun m hm => ?_)) (And.intro rfl (And.intro rfl (And.intro rfl (And.intro rfl trivial)))) rfl rfl
      rw [setI_at, e19, e20, e21]
      by_cases hij : m = j
      · rw [if_pos ⟨rfl, hij⟩, hij]
      · rw [if_neg (fun q => hij q.2)]
        exact h3 m (by omega)
  refine zrun_sound t_X4_rise C E [27, 55] 60 _ _ _ _ ?_
  have hI2 := hI
  rcases hI with hI | ⟨t', s', n', i1, i2, i3, i4, i5, i6, i7, i8⟩
  · refine And.intro (by omega) (And.intro (by omega) (And.intro (fun c => ?_) (fun c => absurd c (by omega))))
    refine And.intro (by omega) (And.intro (by omega) (And.intro (fun c => absurd c (by omega)) (fun c => ?_)))
    exact zJ_le (tides 1440 0 h (by omega) (fr_rfl _ _) (fun m hm => absurd hm (by omega))) (And.intro rfl (And.intro rfl (And.intro rfl (And.intro rfl trivial)))) rfl rfl
  · have hs32' : s' < 32 := Nat.lt_of_lt_of_le i6 (Nat.pow_le_pow_right (by omega) (show n' ≤ 5 by omega) : 2 ^ n' ≤ 2 ^ 5)
    refine And.intro (by omega) (And.intro (by omega) (And.intro (fun c => ?_) (fun c => ?_)))
    · refine And.intro (by omega) (And.intro (by omega) (And.intro (fun c => absurd c (by omega)) (fun c => ?_)))
      exact zJ_le (tides 1440 0 h (by omega) (fr_rfl _ _) (fun m hm => absurd hm (by omega))) (And.intro rfl (And.intro rfl (And.intro rfl (And.intro rfl trivial)))) rfl rfl
    · have et : t' = t := by omega
      have en : n' = n := by omega
      subst et
      subst en
      refine And.intro (by omega) (And.intro (by omega) (And.intro (fun c2 => ?_) (fun c2 => ?_)))
      · refine And.intro (by omega) (And.intro (by omega) (And.intro (fun c => ?_) (fun c3 => absurd c c3)))
        exact zJ_le (mid h (fr_rfl _ _) i7) (And.intro rfl (And.intro rfl (And.intro rfl trivial))) rfl rfl
      · have es : s' = s := by omega
        subst es
        exact And.intro rfl (And.intro (fr_rfl _ _) (And.intro i1 (And.intro i2 (And.intro i7 i8))))
/-- the first minute above a height -/
theorem c_X4_firstAbove {d : Nat} (h : zH) (v : Int) (m : Nat) (hv : inR v) (hm : m ≤ 1440) (hr : ∀ j : Nat, j < 1440 → inR (h.1 34 j)) :
    zC d k_X4_firstAbove [sR 3, sI v, sI m] h (fun o g => h = g ∧ ∃ r : Nat, o = some (sI r) ∧ m ≤ r ∧ r ≤ 1440 ∧ (∀ j : Nat, m ≤ j → j < r → h.1 34 j ≤ v) ∧ (r < 1440 → v < h.1 34 r)) := by
  refine zC_of (by decide +kernel) (Nat.le_of_ble_eq_true rfl) (fun X C E => ?_)
  have loop : ∀ f j : Nat, j + f = 1440 → m ≤ j → (∀ i : Nat, m ≤ i → i < j → h.1 34 i ≤ v) → zJ X 2 [some (sR 3), some (sI v), none, some (sI j)] [] h := by
    intro f
    induction f with
    | zero =>
      intro j hj hmj hlow
      refine zrun_sound t_X4_firstAbove C E [] 40 _ _ _ _ ?_
      refine And.intro (by omega) (And.intro (by omega) (And.intro (fun c => ?_) (fun c => absurd c (by omega))))
      exact And.intro rfl ⟨j, rfl, hmj, by omega, hlow, fun q => absurd q (by omega)⟩
    | succ f ih =>
      intro j hj hmj hlow
      have ej : ((j : Int)).toNat = j := rfl
      refine zrun_sound t_X4_firstAbove C E [2] 40 _ _ _ _ ?_
      refine And.intro (by omega) (And.intro (by omega) (And.intro (fun c => absurd c (by omega)) (fun c => ?_)))
      refine And.intro (by omega) (And.intro (by omega) (And.intro (by rw [ej]; exact hr j (by omega)) (And.intro hv (And.intro (fun c2 => ?_) (fun c2 => ?_)))))
      · rw [ej] at c2
        exact And.intro rfl ⟨j, rfl, hmj, by omega, hlow, fun _ => c2⟩
      · rw [ej] at c2
        refine zJ_le (ih (j + 1) (by omega) (by omega) (fun i h1 h2 => ?_)) (And.intro rfl (And.intro rfl (And.intro rfl trivial))) rfl rfl
        by_cases e : i = j
        · rw [e]; omega
        · exact hlow i h1 (by omega)
  refine zrun_sound t_X4_firstAbove C E [2] 40 _ _ _ _ ?_
  exact zJ_le (loop (1440 - m) m (by omega) (Nat.le_refl _) (fun i h1 h2 => absurd h1 (by omega))) (And.intro rfl (And.intro rfl (And.intro rfl trivial))) rfl rfl
