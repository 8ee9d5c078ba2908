/-! ===== a tide, told by points ===== -/
def fstx (P : Nat → Int) (m : Int) : Nat → Nat → Nat
  | 0, k => k
  | f + 1, k => if P k < m then fstx P m f (k + 1) else k
theorem fstx_spec (P : Nat → Int) (m : Int) : ∀ f k, k ≤ fstx P m f k ∧ fstx P m f k ≤ k + f ∧ (∀ j, k ≤ j → j < fstx P m f k → P j < m) ∧ (fstx P m f k < k + f → ¬ P (fstx P m f k) < m)
  | 0, k => ⟨Nat.le_refl _, Nat.le_refl _, fun j h1 h2 => absurd h2 (by show ¬ j < k; omega), fun h => absurd h (by show ¬ k < k + 0; omega)⟩
  | f + 1, k => by
    unfold fstx
    by_cases c : P k < m
    · rw [if_pos c]
      obtain ⟨h1, h2, h3, h4⟩ := fstx_spec P m f (k + 1)
      refine ⟨by omega, by omega, fun j a b => ?_, fun h => h4 (by omega)⟩
      by_cases e : j = k
      · rw [e]; exact c
      · exact h3 j (by omega) b
    · rw [if_neg c]
      exact ⟨Nat.le_refl _, by omega, fun j a b => by omega, fun _ => c⟩
def tideF (pt P Q : Nat → Int) (t : Nat) (m : Int) : Int :=
  if fstx (fun j => P (12 * t + j)) m (pt t).toNat 0 = 0 then Q (12 * t)
  else if fstx (fun j => P (12 * t + j)) m (pt t).toNat 0 = (pt t).toNat then Q (12 * t + ((pt t).toNat - 1))
  else (Q (12 * t + (fstx (fun j => P (12 * t + j)) m (pt t).toNat 0 - 1)) * (P (12 * t + fstx (fun j => P (12 * t + j)) m (pt t).toNat 0) - P (12 * t + (fstx (fun j => P (12 * t + j)) m (pt t).toNat 0 - 1)) - (m - P (12 * t + (fstx (fun j => P (12 * t + j)) m (pt t).toNat 0 - 1))))
    + Q (12 * t + fstx (fun j => P (12 * t + j)) m (pt t).toNat 0) * (m - P (12 * t + (fstx (fun j => P (12 * t + j)) m (pt t).toNat 0 - 1)))) / (P (12 * t + fstx (fun j => P (12 * t + j)) m (pt t).toNat 0) - P (12 * t + (fstx (fun j => P (12 * t + j)) m (pt t).toNat 0 - 1)))
def TOK (pt P Q : Nat → Int) (t : Nat) : Prop := (1 ≤ pt t ∧ pt t ≤ 12) ∧ (∀ k : Nat, (k : Int) < pt t → (0 ≤ P (12 * t + k) ∧ P (12 * t + k) ≤ 1439) ∧ (0 ≤ Q (12 * t + k) ∧ Q (12 * t + k) ≤ 999)) ∧ (∀ k : Nat, (k : Int) + 1 < pt t → P (12 * t + k) < P (12 * t + (k + 1)))
theorem lin_b {a b n k : Int} (ha : 0 ≤ a ∧ a ≤ 999) (hb : 0 ≤ b ∧ b ≤ 999) (hk : 0 ≤ k ∧ k ≤ n) : 0 ≤ a * (n - k) + b * k ∧ a * (n - k) + b * k ≤ 999 * n := by
  have h1 := Int.mul_nonneg ha.1 (show 0 ≤ n - k by omega)
  have h2 := Int.mul_nonneg hb.1 hk.1
  have h3 := Int.mul_le_mul_of_nonneg_right ha.2 (show 0 ≤ n - k by omega)
  have h4 := Int.mul_le_mul_of_nonneg_right hb.2 hk.1
  omega
theorem lin_d {x n : Int} (h : 0 ≤ x ∧ x ≤ 999 * n) (hn : 0 < n) : 0 ≤ x / n ∧ x / n ≤ 999 := by
  refine ⟨Int.ediv_nonneg h.1 (by omega), ?_⟩
  have := Int.ediv_le_ediv hn h.2
  rw [Int.mul_ediv_cancel _ (by omega)] at this
  exact this
theorem tideF_b {pt P Q : Nat → Int} {t : Nat} {m : Int} (hok : TOK pt P Q t) : 0 ≤ tideF pt P Q t m ∧ tideF pt P Q t m ≤ 999 := by
  obtain ⟨hn, hpq, hup⟩ := hok
  have hs := fstx_spec (fun j => P (12 * t + j)) m (pt t).toNat 0
  unfold tideF
  generalize fstx (fun j => P (12 * t + j)) m (pt t).toNat 0 = r at hs ⊢
  split
  · exact (hpq 0 (by omega)).2
  · split
    · exact (hpq _ (by omega)).2
    · have h1 := hup (r - 1) (by omega)
      rw [show r - 1 + 1 = r by omega] at h1
      have h2 : P (12 * t + (r - 1)) < m := hs.2.2.1 (r - 1) (by omega) (by omega)
      have h3 : ¬ P (12 * t + r) < m := hs.2.2.2 (by omega)
      exact lin_d (lin_b (hpq _ (by omega)).2 (hpq r (by omega)).2 (by omega)) (by omega)
set_option maxHeartbeats 4000000 in
theorem c_X2_tideAt {d : Nat} (hd : 1 ≤ d) (h : zH) (t : Nat) (m : Int) (ht : t < 10) (hm : inR m) (hok : TOK (h.1 19) (h.1 20) (h.1 21) t) : zC d k_X2_tideAt [sR 2, sI t, sI m] h (fun o g => h = g ∧ o = some (sI (tideF (h.1 19) (h.1 20) (h.1 21) t m))) := by
  refine zC_of (by decide +kernel) (Nat.le_of_ble_eq_true rfl) (fun X C E => ?_)
  have hdef : tideF (h.1 19) (h.1 20) (h.1 21) t m = tideF (h.1 19) (h.1 20) (h.1 21) t m := rfl
  conv at hdef => rhs; unfold tideF
  have hb := tideF_b (m := m) hok
  obtain ⟨hn, hpq, hup⟩ := hok
  obtain ⟨n, hn'⟩ : ∃ n : Nat, h.1 19 t = n := ⟨(h.1 19 t).toNat, by omega⟩
  have hs := fstx_spec (fun j => h.1 20 (12 * t + j)) m n 0
  rw [show (h.1 19 t).toNat = n by omega] at hdef
  rw [hn'] at hn hpq hup
  have after : ∀ r : Nat, fstx (fun j => h.1 20 (12 * t + j)) m n 0 = r → zJ X 42 [some (sR 2), none, some (sI m), some (sI (12 * (t : Int))), some (sI (12 * (t : Int) + n)), some (sI (12 * (t : Int) + r))] [] h := by
    intro r hr
    rw [hr] at hs hdef
    have e1 : (12 * (t : Int)).toNat = 12 * t := by omega
    have e2 : (12 * (t : Int) + n - 1).toNat = 12 * t + (n - 1) := by omega
    have e3 : (12 * (t : Int) + r).toNat = 12 * t + r := by omega
    refine zrun_sound t_X2_tideAt C E [] 80 _ _ _ _ ?_
    refine And.intro (by omega) (And.intro (by omega) (And.intro (fun c => ?_) (fun c => ?_)))
    · refine And.intro (by omega) (And.intro (by omega) (And.intro (fun c2 => ?_) (fun c2 => ?_)))
      · have h1 := hup (r - 1) (by omega)
        rw [show r - 1 + 1 = r by omega] at h1
        have h2 : h.1 20 (12 * t + (r - 1)) < m := hs.2.2.1 (r - 1) (by omega) (by omega)
        have h3 : ¬ h.1 20 (12 * t + r) < m := hs.2.2.2 (by omega)
        have b1 := hpq (r - 1) (by omega)
        have b2 := hpq r (by omega)
        have e4 : (12 * (t : Int) + r - 1).toNat = 12 * t + (r - 1) := by omega
        have hl := lin_b (n := h.1 20 (12 * t + r) - h.1 20 (12 * t + (r - 1))) (k := m - h.1 20 (12 * t + (r - 1))) b1.2 b2.2 (by omega)
        refine And.intro (by omega) (And.intro (by omega) ?_)
        refine And.intro (by omega) (And.intro (by omega) ?_)
        refine And.intro (by omega) (And.intro (by omega) (And.intro (by rw [e3, e4]; omega) ?_))
        refine And.intro (by omega) (And.intro (by omega) ?_)
        refine And.intro (by omega) (And.intro (by omega) ?_)
        refine And.intro (by omega) (And.intro (by omega) ?_)
        have e5 : max 1 (h.1 20 (12 * (t : Int) + r).toNat - h.1 20 (12 * (t : Int) + r - 1).toNat) = h.1 20 (12 * t + r) - h.1 20 (12 * t + (r - 1)) := by
          rw [e3, e4]
          omega
        refine And.intro (by rw [e5, e3, e4]; omega) (And.intro (by rw [e5]; omega) (And.intro rfl (congrArg (fun z => some (sI z)) ?_)))
        rw [e5, e3, e4, hdef, if_neg (by omega), if_neg (by omega)]
      · refine And.intro (by omega) (And.intro (by omega) (And.intro rfl (congrArg (fun z => some (sI z)) ?_)))
        rw [e2, hdef, if_neg (by omega), if_pos (by omega)]
    · have c2 : r = 0 := by omega
      refine And.intro (by omega) (And.intro (by omega) (And.intro rfl (congrArg (fun z => some (sI z)) ?_)))
      rw [e1, hdef, if_pos c2]
  have loop : ∀ f j : Nat, j + f = n → fstx (fun j => h.1 20 (12 * t + j)) m n 0 = fstx (fun j => h.1 20 (12 * t + j)) m f j → zJ X 18 [some (sR 2), none, some (sI m), some (sI (12 * (t : Int))), some (sI (12 * (t : Int) + n)), some (sI (12 * (t : Int) + j))] [] h := by
    intro f
    induction f with
    | zero =>
      intro j hj hf
      refine zrun_sound t_X2_tideAt C E [42] 40 _ _ _ _ ?_
      refine And.intro (by omega) (And.intro (by omega) (And.intro (fun c => ?_) (fun c => absurd c (by omega))))
      exact after j hf
    | succ f ih =>
      intro j hj hf
      have e3 : (12 * (t : Int) + j).toNat = 12 * t + j := by omega
      have b := hpq j (by omega)
      refine zrun_sound t_X2_tideAt C E [42, 18] 40 _ _ _ _ ?_
      refine And.intro (by omega) (And.intro (by omega) (And.intro (fun c => absurd c (by omega)) (fun c => ?_)))
      refine And.intro (by omega) (And.intro (by omega) (And.intro (by rw [e3]; omega) (And.intro hm (And.intro (fun c2 => ?_) (fun c2 => ?_)))))
      · rw [e3] at c2
        refine after j ?_
        rw [hf]
        unfold fstx
        rw [if_neg (by omega)]
      · rw [e3] at c2
        refine zJ_le (ih (j + 1) (by omega) ?_) (And.intro rfl (And.intro rfl (And.intro rfl (And.intro rfl (And.intro (by rw [show ((j + 1 : Nat) : Int) = j + 1 from rfl, Int.add_assoc]) trivial))))) rfl rfl
        rw [hf]
        conv => lhs; unfold fstx
        rw [if_pos (by omega)]
  refine zrun_sound t_X2_tideAt C E [18] 40 _ _ _ _ ?_
  refine And.intro (by omega) (And.intro (by omega) ?_)
  refine zJ_le (loop n 0 (by omega) rfl) (And.intro rfl (And.intro rfl (And.intro rfl (And.intro ?_ (And.intro ?_ trivial))))) rfl rfl
  · rw [show ((t : Int)).toNat = t from rfl, hn']
  · rw [show ((0 : Nat) : Int) = 0 from rfl, Int.add_zero]
