/-! ===== chances of sets of winds ===== -/
def chF (f : Nat → Int) (s : Nat) : Nat → Int
  | 0 => 0
  | n + 1 => if s / 2 ^ n % 2 = 1 then chF f s n + f n else chF f s n
theorem chF_b {f : Nat → Int} {s : Nat} : ∀ n : Nat, (∀ w, w < n → 1 ≤ f w ∧ f w ≤ 99) → 0 ≤ chF f s n ∧ chF f s n ≤ 99 * n
  | 0, _ => ⟨Int.le_refl _, Int.le_refl _⟩
  | n + 1, hf => by
    have := chF_b (s := s) n (fun w hw => hf w (by omega))
    have := hf n (by omega)
    unfold chF
    split <;> omega
theorem chF_pos {f : Nat → Int} {s : Nat} : ∀ n : Nat, (∀ w, w < n → 1 ≤ f w ∧ f w ≤ 99) → 1 ≤ s → s < 2 ^ n → 1 ≤ chF f s n
  | 0, _, h1, h2 => absurd h2 (by omega)
  | n + 1, hf, h1, h2 => by
    have hb := chF_b (s := s) n (fun w hw => hf w (by omega))
    have hn := hf n (by omega)
    rw [Nat.pow_succ] at h2
    unfold chF
    by_cases q : s / 2 ^ n % 2 = 1
    · rw [if_pos q]
      omega
    · rw [if_neg q]
      refine chF_pos n (fun w hw => hf w (by omega)) h1 ?_
      have h3 : s / 2 ^ n < 2 := Nat.div_lt_of_lt_mul (by omega)
      have h4 : s / 2 ^ n = 0 := by
        generalize s / 2 ^ n = x at q h3
        omega
      have := Nat.div_eq_zero_iff.mp h4
      rcases this with z | z
      · have := Nat.pow_pos (n := n) (show 0 < 2 by decide)
        omega
      · exact z
theorem chF_c {f g : Nat → Int} {s : Nat} : ∀ n : Nat, (∀ w, w < n → f w = g w) → chF f s n = chF g s n
  | 0, _ => rfl
  | n + 1, h => by
    unfold chF
    rw [chF_c n (fun w hw => h w (by omega)), h n (by omega)]
theorem c_X2_chanceOf {d : Nat} (h : zH) (s n : Nat) (hs : s < 32) (hn : h.1 2 4 = n) (h5 : n ≤ 5) : zC d k_X2_chanceOf [sR 2, sI s] h (fun o g => h = g ∧ o = some (sI (chF (h.1 24) s n))) := by
  refine zC_of (by decide +kernel) (Nat.le_of_ble_eq_true rfl) (fun X C E => ?_)
  have loop : ∀ f w : Nat, w + f = n → zJ X 4 [some (sR 2), some (sI s), some (sI (chF (h.1 24) s w)), some (sI w)] [] h := by
    intro f
    induction f with
    | zero =>
      intro w hw
      refine zrun_sound t_X2_chanceOf C E [] 60 _ _ _ _ ?_
      refine And.intro (by omega) (And.intro (by omega) (And.intro (fun _ => ?_) (fun z => absurd (by omega) z)))
      exact And.intro rfl (by rw [show w = n by omega])
    | succ f ih =>
      intro w hw
      have nx := ih (w + 1) (by omega)
      have bt := (bit_tab s hs w (by omega)).1
      have e : chF (h.1 24) s (w + 1) = if s / 2 ^ w % 2 = 1 then chF (h.1 24) s w + h.1 24 w else chF (h.1 24) s w := rfl
      rw [e] at nx
      refine zrun_sound t_X2_chanceOf C E [4] 60 _ _ _ _ ?_
      refine And.intro (by omega) (And.intro (by omega) (And.intro (fun z => absurd z (by omega)) (fun _ => ?_)))
      refine And.intro (and32_in _ _) (And.intro (fun z => ?_) (fun z => ?_))
      · replace z := bt.symm.trans z
        rw [if_neg (by omega)] at nx
        exact zJ_le nx (And.intro rfl (And.intro rfl (And.intro rfl (And.intro rfl trivial)))) rfl rfl
      · replace z : ¬ ((s / 2 ^ w % 2 : Nat) : Int) = 0 := fun q => z (bt.trans q)
        rw [if_pos (by omega)] at nx
        have k0 : (0 : Int) ≤ (w : Int) := by omega
        have k1 : (w : Int) < 5 := by omega
        refine And.intro k0 (And.intro k1 ?_)
        exact zJ_le nx (And.intro rfl (And.intro rfl (And.intro rfl (And.intro rfl trivial)))) rfl rfl
  refine zrun_sound t_X2_chanceOf C E [4] 60 _ _ _ _ ?_
  exact loop n 0 (by omega)
theorem c_X9_chancesOf {d : Nat} (h : zH) (s n : Nat) (hs : s < 32) (hn : h.1 52 16 = n) (h5 : n ≤ 5) : zC d k_X9_chancesOf [sR 52, sI s] h (fun o g => h = g ∧ o = some (sI (chF (h.1 65) s n))) := by
  refine zC_of (by decide +kernel) (Nat.le_of_ble_eq_true rfl) (fun X C E => ?_)
  have loop : ∀ f w : Nat, w + f = n → zJ X 4 [some (sR 52), some (sI s), some (sI (chF (h.1 65) s w)), some (sI w)] [] h := by
    intro f
    induction f with
    | zero =>
      intro w hw
      refine zrun_sound t_X9_chancesOf C E [] 60 _ _ _ _ ?_
      refine And.intro (by omega) (And.intro (by omega) (And.intro (fun _ => ?_) (fun z => absurd (by omega) z)))
      exact And.intro rfl (by rw [show w = n by omega])
    | succ f ih =>
      intro w hw
      have nx := ih (w + 1) (by omega)
      have bt := (bit_tab s hs w (by omega)).2
      have e : chF (h.1 65) s (w + 1) = if s / 2 ^ w % 2 = 1 then chF (h.1 65) s w + h.1 65 w else chF (h.1 65) s w := rfl
      rw [e] at nx
      refine zrun_sound t_X9_chancesOf C E [4] 60 _ _ _ _ ?_
      refine And.intro (by omega) (And.intro (by omega) (And.intro (fun z => absurd z (by omega)) (fun _ => ?_)))
      refine And.intro (and32_in _ _) (And.intro (by omega) (And.intro (fun z => ?_) (fun z => ?_)))
      · replace z : ¬ ((s / 2 ^ w % 2 : Nat) : Int) = 1 := fun q => z (bt.trans q)
        rw [if_neg (by omega)] at nx
        exact zJ_le nx (And.intro rfl (And.intro rfl (And.intro (congrArg sI (Int.add_zero _).symm) (And.intro rfl trivial)))) rfl rfl
      · replace z := bt.symm.trans z
        rw [if_pos (by omega)] at nx
        have k0 : (0 : Int) ≤ (w : Int) := by omega
        have k1 : (w : Int) < 5 := by omega
        refine And.intro k0 (And.intro k1 ?_)
        exact zJ_le nx (And.intro rfl (And.intro rfl (And.intro rfl (And.intro rfl trivial)))) rfl rfl
  refine zrun_sound t_X9_chancesOf C E [4] 60 _ _ _ _ ?_
  exact loop n 0 (by omega)
/-- the thousandths of a set of winds -/
def thF (h : zH) (s : Nat) : Int := chF (h.1 24) s (h.1 2 4).toNat * 1000 / chF (h.1 24) (aw h) (h.1 2 4).toNat
theorem Vw_c {h : zH} (hV : VV h) : ∀ w, w < (h.1 2 4).toNat → 1 ≤ h.1 24 w ∧ h.1 24 w ≤ 99 := fun w hw => by
  have := hV.1.2.1
  exact (hV.2.2.1 w (by omega)).2.2
theorem ch_aw {h : zH} (hV : VV h) : 1 ≤ chF (h.1 24) (aw h) (h.1 2 4).toNat ∧ chF (h.1 24) (aw h) (h.1 2 4).toNat ≤ 495 := by
  obtain ⟨w1, w2, -⟩ := aw_ok hV
  have := hV.1.2.1
  have b := chF_b (s := aw h) _ (Vw_c hV)
  exact ⟨chF_pos _ (Vw_c hV) w1 w2, by omega⟩
theorem aw32 {h : zH} (hV : VV h) : aw h < 32 := by
  obtain ⟨w1, w2, -⟩ := aw_ok hV
  have := hV.1.2.1
  exact Nat.lt_of_lt_of_le w2 (Nat.pow_le_pow_right (by omega) (show (h.1 2 4).toNat ≤ 5 by omega))
theorem c_X2_thousandths {d : Nat} (hd : 3 ≤ d) (h : zH) (s : Nat) (hs : s < 32) (hV : VV h) : zC d k_X2_thousandths [sR 2, sI s] h (fun o g => h = g ∧ o = some (sI (thF h s))) := by
  have hv2 := hV.1.2.1
  obtain ⟨w1, w2, w3⟩ := aw_ok hV
  have b1 := chF_b (s := s) _ (Vw_c hV)
  have b2 := ch_aw hV
  have hd1 : 1 ≤ d := by omega
  refine zC_of (by decide +kernel) (Nat.le_of_ble_eq_true rfl) (fun X C E => zrun_sound t_X2_thousandths C E [] 60 _ _ _ _ ?_)
  refine zcall_i (d' := d - 1) (by omega) (c_X2_chanceOf h s (h.1 2 4).toNat hs (by omega) (by omega)) ?_
  rintro _ _ ⟨rfl, rfl⟩
  refine zcall_i (d' := d - 1) (by omega) (c_X2_allWinds h (by omega)) ?_
  rintro _ _ ⟨rfl, rfl⟩
  rw [w3]
  refine zcall_i (d' := d - 1) (by omega) (c_X2_chanceOf h (aw h) (h.1 2 4).toNat (aw32 hV) (by omega) (by omega)) ?_
  rintro _ _ ⟨rfl, rfl⟩
  refine And.intro hd1 (And.intro (by omega) (And.intro (by omega) ?_))
  rw [show max 1 (chF (h.1 24) (aw h) (h.1 2 4).toNat) = chF (h.1 24) (aw h) (h.1 2 4).toNat by omega]
  exact And.intro (by omega) (And.intro (by omega) (And.intro rfl rfl))
theorem ch_M {h g : zH} (k : kpR h g) (hE : Ieq h) (hV : VV h) (s : Nat) : chF (g.1 65) s (h.1 2 4).toNat = chF (h.1 24) s (h.1 2 4).toNat := by
  have := hV.1.2.1
  refine chF_c _ (fun w hw => ?_)
  rw [k.1 65 rfl]
  exact (hE.2.2.2.1 w (by omega)).2.2
