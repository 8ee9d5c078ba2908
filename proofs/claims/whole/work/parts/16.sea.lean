set_option maxHeartbeats 4000000 in
theorem c_X9_tideAt {d : Nat} (h : zH) (t : Nat) (m : Int) (ht : t < 10) (hm : inR m) (hok : TOK (h.1 58) (h.1 59) (h.1 60) t) : zC d k_X9_tideAt [sR 52, sI t, sI m] h (fun o g => h = g ∧ o = some (sI (tideF (h.1 58) (h.1 59) (h.1 60) t m))) := by
  refine zC_of (by decide +kernel) (Nat.le_of_ble_eq_true rfl) (fun X C E => ?_)
  have hdef : tideF (h.1 58) (h.1 59) (h.1 60) t m = tideF (h.1 58) (h.1 59) (h.1 60) t m := rfl
  conv at hdef => rhs; unfold tideF
  have hb := tideF_b (m := m) hok
  obtain ⟨hn, hpq, hup⟩ := hok
  obtain ⟨n, hn'⟩ : ∃ n : Nat, h.1 58 t = n := ⟨(h.1 58 t).toNat, by omega⟩
  have hs := fstx_spec (fun j => h.1 59 (12 * t + j)) m n 0
  rw [show (h.1 58 t).toNat = n by omega] at hdef
  rw [hn'] at hn hpq hup
  have e1 : (12 * (t : Int)).toNat = 12 * t := by omega
  have e2 : (12 * (t : Int) + n - 1).toNat = 12 * t + (n - 1) := by omega
  have loop : ∀ f j : Nat, j + 1 + f = n → fstx (fun j => h.1 59 (12 * t + j)) m n 0 = fstx (fun j => h.1 59 (12 * t + j)) m f (j + 1) → zJ X 37 [some (sR 52), none, some (sI m), none, some (sI (12 * (t : Int) + n - 1)), some (sI (12 * (t : Int) + j))] [] h := by
    intro f
    induction f with
    | zero =>
      intro j hj hf
      rw [show fstx (fun j => h.1 59 (12 * t + j)) m 0 (j + 1) = j + 1 from rfl] at hf
      refine zrun_sound t_X9_tideAt C E [] 40 _ _ _ _ ?_
      refine And.intro (by omega) (And.intro (by omega) (And.intro (fun c => ?_) (fun c => absurd (show 12 * (t : Int) + n - 1 ≤ 12 * (t : Int) + j by omega) c)))
      refine And.intro (by omega) (And.intro (by omega) (And.intro rfl (congrArg (fun z => some (sI z)) ?_)))
      rw [e2, hdef, if_neg (by omega), if_pos (by omega)]
    | succ f ih =>
      intro j hj hf
      have e3 : (12 * (t : Int) + j).toNat = 12 * t + j := by omega
      have e4 : (12 * (t : Int) + j + 1).toNat = 12 * t + (j + 1) := by omega
      have b1 := hpq j (by omega)
      have b2 := hpq (j + 1) (by omega)
      have hlt := hup j (by omega)
      have hjm : h.1 59 (12 * t + j) < m := hs.2.2.1 j (by omega) (by
        rw [hf]
        have := (fstx_spec (fun j => h.1 59 (12 * t + j)) m (f + 1) (j + 1)).1
        omega)
      refine zrun_sound t_X9_tideAt C E [37] 80 _ _ _ _ ?_
      refine And.intro (by omega) (And.intro (by omega) (And.intro (fun c => absurd c (by omega)) (fun c => ?_)))
      refine And.intro (by omega) (And.intro (by omega) (And.intro (by omega) (And.intro (by rw [e4]; omega) (And.intro (fun c2 => ?_) (fun c2 => ?_)))))
      · rw [e4] at c2
        refine zJ_le (ih (j + 1) (by omega) ?_) (And.intro rfl (And.intro rfl (And.intro rfl (And.intro (by rw [show ((j + 1 : Nat) : Int) = j + 1 from rfl, Int.add_assoc]) trivial)))) rfl rfl
        rw [hf]
        conv => lhs; unfold fstx
        rw [if_pos (by omega)]
      · rw [e4] at c2
        have hr : fstx (fun j => h.1 59 (12 * t + j)) m n 0 = j + 1 := by
          rw [hf]
          unfold fstx
          rw [if_neg (by omega)]
        have hl := lin_b (n := h.1 59 (12 * t + (j + 1)) - h.1 59 (12 * t + j)) (k := m - h.1 59 (12 * t + j)) b1.2 b2.2 (by omega)
        refine And.intro (by omega) (And.intro (by omega) ?_)
        refine And.intro (by omega) (And.intro (by omega) ?_)
        refine And.intro (by omega) (And.intro (by omega) ?_)
        refine And.intro (by omega) (And.intro (by omega) ?_)
        refine And.intro (by omega) (And.intro (by omega) ?_)
        refine And.intro (by rw [e3, e4]; omega) (And.intro (by rw [e3, e4]; omega) (And.intro rfl (congrArg (fun z => some (sI z)) ?_)))
        rw [e3, e4, hdef, hr, if_neg (by omega), if_neg (by omega), show j + 1 - 1 = j by omega]
  refine zrun_sound t_X9_tideAt C E [37] 60 _ _ _ _ ?_
  have b0 := hpq 0 (by omega)
  rw [Nat.add_zero] at b0
  refine And.intro (by omega) (And.intro (by omega) ?_)
  refine And.intro (by omega) (And.intro (by omega) ?_)
  refine And.intro hm (And.intro (by rw [e1]; omega) (And.intro (fun c => ?_) (fun c => ?_)))
  · rw [e1] at c
    refine zJ_le (loop (n - 1) 0 (by omega) ?_) (And.intro rfl (And.intro rfl (And.intro ?_ (And.intro ?_ trivial)))) rfl rfl
    · rw [show n = (n - 1) + 1 by omega]
      conv => lhs; unfold fstx
      rw [if_pos (by simpa using c)]
      simp
    · rw [show ((t : Int)).toNat = t from rfl, hn']
    · rw [show ((0 : Nat) : Int) = 0 from rfl, Int.add_zero]
  · rw [e1] at c
    refine And.intro (by omega) (And.intro (by omega) (And.intro rfl (congrArg (fun z => some (sI z)) ?_)))
    have hr : fstx (fun j => h.1 59 (12 * t + j)) m n 0 = 0 := by
      rw [show n = (n - 1) + 1 by omega]
      unfold fstx
      rw [if_neg (by simpa using c)]
    rw [e1, hdef, if_pos hr]
/-- the sea on a tide in a wind -/
def seaF (pt P Q li ea : Nat → Int) (t w : Nat) (m : Int) : Int := tideF pt P Q t (max 0 (min 1439 (m + ea w))) + li w
theorem seaF_b {pt P Q li ea : Nat → Int} {t w : Nat} {m : Int} (hok : TOK pt P Q t) (hw : -99 ≤ li w ∧ li w ≤ 99) : -99 ≤ seaF pt P Q li ea t w m ∧ seaF pt P Q li ea t w m ≤ 1098 := by
  have := tideF_b (m := max 0 (min 1439 (m + ea w))) hok
  unfold seaF
  omega
theorem c_X2_seaAt {d : Nat} (hd : 2 ≤ d) (h : zH) (t w : Nat) (m : Int) (ht : t < 10) (hw : w < 5) (hm : 0 ≤ m ∧ m ≤ 1439) (hok : TOK (h.1 19) (h.1 20) (h.1 21) t) (hea : -60 ≤ h.1 23 w ∧ h.1 23 w ≤ 60) : zC d k_X2_seaAt [sR 2, sI t, sI w, sI m] h (fun o g => h = g ∧ o = some (sI (seaF (h.1 19) (h.1 20) (h.1 21) (h.1 22) (h.1 23) t w m))) := by
  refine zC_of (by decide +kernel) (Nat.le_of_ble_eq_true rfl) (fun X C E => zrun_sound t_X2_seaAt C E [] 60 _ _ _ _ ?_)
  have ew : ((w : Int)).toNat = w := rfl
  refine And.intro (by omega) (And.intro (by omega) ?_)
  refine And.intro (by omega) (And.intro (by omega) (And.intro (by rw [ew]; omega) ?_))
  refine And.intro (by omega) (And.intro (by omega) (And.intro (by rw [ew]; omega) ?_))
  refine zcall_i (d' := d - 1) (by omega) (c_X2_tideAt (by omega) h t _ ht (by omega) hok) ?_
  rintro _ _ ⟨rfl, rfl⟩
  refine And.intro (by omega) (And.intro (by omega) ?_)
  exact And.intro rfl rfl
theorem c_X9_seaAt {d : Nat} (hd : 1 ≤ d) (h : zH) (t w : Nat) (m : Int) (ht : t < 10) (hw : w < 5) (hm : 0 ≤ m ∧ m ≤ 1439) (hok : TOK (h.1 58) (h.1 59) (h.1 60) t) (hea : -60 ≤ h.1 64 w ∧ h.1 64 w ≤ 60) : zC d k_X9_seaAt [sR 52, sI t, sI w, sI m] h (fun o g => h = g ∧ o = some (sI (seaF (h.1 58) (h.1 59) (h.1 60) (h.1 63) (h.1 64) t w m))) := by
  refine zC_of (by decide +kernel) (Nat.le_of_ble_eq_true rfl) (fun X C E => zrun_sound t_X9_seaAt C E [] 60 _ _ _ _ ?_)
  have ew : ((w : Int)).toNat = w := rfl
  refine And.intro (by omega) (And.intro (by omega) ?_)
  refine And.intro (by rw [ew]; omega) (And.intro (fun c => ?_) (fun c => ?_))
  · refine And.intro (by rw [ew]; omega) (And.intro (by omega) (And.intro (fun c2 => ?_) (fun c2 => ?_)))
    · refine zcall_i (d' := d - 1) (by omega) (c_X9_tideAt h t _ ht (by rw [ew]; omega) hok) ?_
      rintro _ _ ⟨rfl, rfl⟩
      refine And.intro (by omega) (And.intro (by omega) (And.intro rfl (congrArg (fun z => some (sI z)) ?_)))
      unfold seaF
      rw [ew] at c c2 ⊢
      rw [show max 0 (min 1439 (m + h.1 64 w)) = m + h.1 64 w by omega]
    · refine zcall_i (d' := d - 1) (by omega) (c_X9_tideAt h t _ ht (by omega) hok) ?_
      rintro _ _ ⟨rfl, rfl⟩
      refine And.intro (by omega) (And.intro (by omega) (And.intro rfl (congrArg (fun z => some (sI z)) ?_)))
      unfold seaF
      rw [ew] at c c2 ⊢
      rw [show max 0 (min 1439 (m + h.1 64 w)) = 1439 by omega]
  · refine zcall_i (d' := d - 1) (by omega) (c_X9_tideAt h t _ ht (by omega) hok) ?_
    rintro _ _ ⟨rfl, rfl⟩
    refine And.intro (by omega) (And.intro (by omega) (And.intro rfl (congrArg (fun z => some (sI z)) ?_)))
    unfold seaF
    rw [ew] at c ⊢
    rw [show max 0 (min 1439 (m + h.1 64 w)) = 0 by omega]
/-- what a way takes -/
def takeF (len hu : Int) (y : Int) : Int := (len * (hu + 10 * y) + 99) / 100
theorem takeF_b {len hu y : Int} (hl : 1 ≤ len ∧ len ≤ 90) (hh : 50 ≤ hu ∧ hu ≤ 400) (hy : 0 ≤ y ∧ y ≤ 3) : (0 ≤ len * (hu + 10 * y) + 99 ∧ len * (hu + 10 * y) + 99 ≤ 38799) ∧ 1 ≤ takeF len hu y ∧ takeF len hu y ≤ 387 := by
  have h1 := Int.mul_le_mul_of_nonneg_right hl.2 (show 0 ≤ hu + 10 * y by omega)
  have h2 := Int.mul_le_mul_of_nonneg_right hl.1 (show 0 ≤ hu + 10 * y by omega)
  unfold takeF
  omega
theorem takeF_up {len hu y z : Int} (hl : 1 ≤ len) (hyz : y ≤ z) : takeF len hu y ≤ takeF len hu z := by
  have h1 := Int.mul_le_mul_of_nonneg_left (show hu + 10 * y ≤ hu + 10 * z by omega) (show 0 ≤ len by omega)
  unfold takeF
  omega
theorem c_X2_taking {d : Nat} (h : zH) (w s : Nat) (y : Int) (hw : w < 24) (hs : s < 4) (hy : 0 ≤ y ∧ y ≤ 3) (hl : 1 ≤ h.1 28 w ∧ h.1 28 w ≤ 90) (hh : 50 ≤ h.1 32 s ∧ h.1 32 s ≤ 400) : zC d k_X2_taking [sR 2, sI w, sI s, sI y] h (fun o g => h = g ∧ o = some (sI (takeF (h.1 28 w) (h.1 32 s) y))) := by
  have hb := (takeF_b hl hh hy).1
  refine zC_of (by decide +kernel) (Nat.le_of_ble_eq_true rfl) (fun X C E => zrun_sound t_X2_taking C E [] 60 _ _ _ _ ?_)
  refine And.intro (by omega) (And.intro (by omega) ?_)
  refine And.intro (by omega) (And.intro (by omega) ?_)
  refine And.intro ⟨hb.1, by rw [show ((w : Int)).toNat = w from rfl, show ((s : Int)).toNat = s from rfl]; omega⟩ (And.intro (by omega) ?_)
  exact And.intro rfl rfl
theorem c_X9_takesOf {d : Nat} (h : zH) (w s : Nat) (y : Int) (hw : w < 24) (hs : s < 4) (hy : 0 ≤ y ∧ y ≤ 3) (hl : 1 ≤ h.1 68 w ∧ h.1 68 w ≤ 90) (hh : 50 ≤ h.1 53 (84 + s) ∧ h.1 53 (84 + s) ≤ 400) : zC d k_X9_takesOf [sR 52, sI w, sI s, sI y] h (fun o g => h = g ∧ o = some (sI (takeF (h.1 68 w) (h.1 53 (84 + s)) y))) := by
  have hb := (takeF_b hl hh hy).1
  have es : (84 + (s : Int)).toNat = 84 + s := by omega
  refine zC_of (by decide +kernel) (Nat.le_of_ble_eq_true rfl) (fun X C E => zrun_sound t_X9_takesOf C E [] 60 _ _ _ _ ?_)
  refine And.intro (by omega) (And.intro (by omega) ?_)
  refine And.intro (by omega) (And.intro (by omega) ?_)
  refine And.intro (by rw [es]; exact ⟨hb.1, by rw [show ((w : Int)).toNat = w from rfl]; omega⟩) (And.intro (by omega) ?_)
  refine And.intro rfl (congrArg (fun z => some (sI z)) ?_)
  rw [es]
  rfl
