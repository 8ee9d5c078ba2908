theorem tldC_A {h : zH} {w v : Int} {rc j m : Nat} (hrc : rc = 25 ∨ rc = 29 ∨ rc = 30 ∨ rc = 31 ∨ rc = 32) (hm : h.1 6 5 = m) (h40 : m < 40) : tldC h (endT (setI h rc j v) m w j (h.1 rc j) v) w rc j v := by
  obtain ⟨e1, e2, e3, e4, e5, e6⟩ := @endT_at (setI h rc j v) m w j (h.1 rc j) v
  refine ⟨fun c a1 a2 a3 a4 a5 a6 => by rw [endT_ne ⟨a1, a2, a3, a4, a5⟩, setI_ne a6], rfl, fun i => ?_, m, 0, Or.inr ⟨by omega, hm, rfl⟩, e1, e2, fun c i hc hi => ?_, e3, e4, e5, e6⟩
  · rw [endT_ne (by omega), setI_at]
    by_cases q : i = j
    · rw [if_pos ⟨rfl, q⟩, if_pos q]
    · rw [if_neg (fun z => q z.2), if_neg q]
  · rw [endT_old hc hi, setI_ne (by omega), Nat.add_zero]
theorem tldC_B {h : zH} {w v : Int} {rc j : Nat} (hrc : rc = 25 ∨ rc = 29 ∨ rc = 30 ∨ rc = 31 ∨ rc = 32) (hm : h.1 6 5 = 40) : tldC h (endT (fgt (setI h rc j v)) 39 w j (h.1 rc j) v) w rc j v := by
  obtain ⟨e1, e2, e3, e4, e5, e6⟩ := @endT_at (fgt (setI h rc j v)) 39 w j (h.1 rc j) v
  refine ⟨fun c a1 a2 a3 a4 a5 a6 => by rw [endT_ne ⟨a1, a2, a3, a4, a5⟩, fgt_ne ⟨a1, a2, a3, a4, a5⟩, setI_ne a6], rfl, fun i => ?_, 39, 1, Or.inl ⟨hm, rfl, rfl⟩, e1, e2, fun c i hc hi => ?_, e3, e4, e5, e6⟩
  · rw [endT_ne (by omega), fgt_ne (by omega), setI_at]
    by_cases q : i = j
    · rw [if_pos ⟨rfl, q⟩, if_pos q]
    · rw [if_neg (fun z => q z.2), if_neg q]
  · rw [endT_old hc hi, fgt_at hc hi, setI_ne (by omega)]
set_option maxHeartbeats 1000000 in
theorem c_X1_tell {d : Nat} (hd : 4 ≤ d) (h : zH) (w v : Int) (rc o j : Nat) (hr : rowOK w rc o j) (hv : inR v) (hold : inR (h.1 rc j)) (hn : 0 ≤ h.1 6 5 ∧ h.1 6 5 ≤ 40) :
    zC d k_X1_tell [sR 6, sI w, sI j, sI v] h (fun x g => (h.1 rc j = v ∧ g = h ∧ x = some (sI v)) ∨ (¬ h.1 rc j = v ∧ tldC h g w rc j v ∧ x = some (sI (h.1 rc j)))) := by
  refine zC_of (by decide +kernel) (Nat.le_of_ble_eq_true rfl) (fun X C E => ?_)
  have rest : ∀ (H : zH) (m : Nat), H.1 6 5 = m → m < 40 → ¬ h.1 rc j = v → tldC h (endT H m w j (h.1 rc j) v) w rc j v → zJ X 43 [some (sR 6), some (sI w), some (sI j), some (sI v), none, some (sI (h.1 rc j))] [] H := by
    intro H m hm h40 hne ht
    have k1 : 0 ≤ H.1 6 5 := by omega
    have k2 : H.1 6 5 < 40 := by omega
    refine zrun_sound t_X1_tell C E [] 60 _ _ _ _ ?_
    refine And.intro k1 (And.intro k2 (And.intro k1 (And.intro k2 (And.intro k1 (And.intro k2 (And.intro k1 (And.intro k2 ?_)))))))
    refine Or.inr ⟨hne, ?_, rfl⟩
    have e : setI (setI (setI (setI (setI (setI H 40 (H.1 6 5).toNat w) 41 (H.1 6 5).toNat j) 42 (H.1 6 5).toNat (h.1 rc j)) 43 (H.1 6 5).toNat v) 6 5 (H.1 6 5 + 1)) 6 6 (H.1 6 5 + 1) = endT H m w j (h.1 rc j) v := by
      rw [hm]
      rfl
    rw [← e] at ht
    exact ht
  have ne6 : 6 ≠ rc := by
    unfold rowOK at hr
    omega
  have rA : h.1 6 5 < 40 → ¬ h.1 rc j = v → zJ X 43 [some (sR 6), some (sI w), some (sI j), some (sI v), none, some (sI (h.1 rc j))] [] (setI h rc j v) := fun c2 c => rest (setI h rc j v) (h.1 6 5).toNat (by rw [setI_ne ne6]; omega) (by omega) c (tldC_A (m := (h.1 6 5).toNat) (by unfold rowOK at hr; omega) (by omega) (by omega))
  have rB : ¬ h.1 6 5 < 40 → ¬ h.1 rc j = v → zJ X 43 [some (sR 6), some (sI w), some (sI j), some (sI v), none, some (sI (h.1 rc j))] [] (fgt (setI h rc j v)) := fun c2 c => rest (fgt (setI h rc j v)) 39 fgt_65 (by omega) c (tldC_B (by unfold rowOK at hr; omega) (by omega))
  have hd2 : d - 1 + 1 ≤ d := by omega
  have hd3 : 2 ≤ d - 1 := by omega
  have h65 : inR (h.1 6 5) := by omega
  have i40 : inR 40 := by decide
  clear rest
  refine zrun_sound t_X1_tell C E [43] 60 _ _ _ _ ?_
  refine zcall_i (d' := d - 1) hd2 (c_X2_rowOf h w rc o j hr) ?_
  rintro _ _ ⟨rfl, rfl⟩
  have j0 : (0 : Int) ≤ (j : Int) := by omega
  unfold rowOK at hr
  rcases hr with ⟨-, rfl, -, q⟩ | ⟨-, rfl, -, q⟩ | ⟨-, rfl, -, q⟩ | ⟨-, rfl, -, q⟩ | ⟨-, rfl, -, q⟩
  all_goals
    refine And.intro j0 (And.intro (by omega) (And.intro hold (And.intro hv (And.intro (fun c => ?_) (fun c => Or.inl ⟨c, rfl, congrArg (fun z => some (sI z)) c⟩)))))
    refine And.intro j0 (And.intro (by omega) (And.intro h65 (And.intro i40 (And.intro (fun c2 => ?_) (fun c2 => ?_)))))
    · exact zJ_le (rA c2 c) (And.intro rfl (And.intro rfl (And.intro rfl (And.intro rfl (And.intro rfl trivial))))) rfl rfl
    · refine zcall_i (d' := d - 1) hd2 (c_X1_forgetOldest hd3 _) ?_
      rintro _ _ ⟨rfl, rfl⟩
      exact zJ_le (rB c2 c) (And.intro rfl (And.intro rfl (And.intro rfl (And.intro rfl (And.intro rfl trivial))))) rfl rfl
/-! ===== what is told, the reference's side; safe, alter, sort ===== -/
def tldM (h g : zH) (k : Nat) (v : Int) : Prop := (∀ c, c ≠ 52 → c ≠ 53 → c ≠ 54 → c ≠ 55 → c ≠ 56 → g.1 c = h.1 c) ∧ g.2 = h.2 ∧ (∀ i, i ≠ 4 → i ≠ 5 → g.1 52 i = h.1 52 i) ∧ (∀ i, g.1 53 i = if i = k then v else h.1 53 i) ∧
  ∃ m s : Nat, ((h.1 52 5 = 40 ∧ m = 39 ∧ s = 1) ∨ (h.1 52 5 < 40 ∧ h.1 52 5 = m ∧ s = 0)) ∧ g.1 52 5 = m + 1 ∧ g.1 52 4 = m + 1 ∧ (∀ c i, c = 54 ∨ c = 55 ∨ c = 56 → i < m → g.1 c i = h.1 c (i + s)) ∧ g.1 54 m = k ∧ g.1 55 m = h.1 53 k ∧ g.1 56 m = v
def endM (h : zH) (m k : Nat) (a v : Int) : zH := setI (setI (setI (setI (setI (setI h 54 m k) 55 m a) 56 m v) 52 5 ((m : Int) + 1)) 52 4 ((m : Int) + 1)) 53 k v
/-- the rows moved down as far as kk -/
def shM (h H : zH) (kk : Nat) : Prop := (∀ c, c ≠ 54 → c ≠ 55 → c ≠ 56 → H.1 c = h.1 c) ∧ H.2 = h.2 ∧ ∀ c i, c = 54 ∨ c = 55 ∨ c = 56 → H.1 c i = if i + 1 < kk then h.1 c (i + 1) else h.1 c i
theorem shM_s {h H : zH} {kk : Nat} (hs : shM h H kk) (hk : 1 ≤ kk) : shM h (setI (setI (setI H 54 (kk - 1) (H.1 54 kk)) 55 (kk - 1) (H.1 55 kk)) 56 (kk - 1) (H.1 56 kk)) (kk + 1) := by
  obtain ⟨a, b, c⟩ := hs
  have at' : ∀ c' i, c' = 54 ∨ c' = 55 ∨ c' = 56 → (setI (setI (setI H 54 (kk - 1) (H.1 54 kk)) 55 (kk - 1) (H.1 55 kk)) 56 (kk - 1) (H.1 56 kk)).1 c' i = if i = kk - 1 then H.1 c' kk else H.1 c' i := by
    intro c' i hc
    rcases hc with rfl | rfl | rfl
    · rw [setI_ne (by omega), setI_ne (by omega), setI_at]
      by_cases q : i = kk - 1
      · rw [if_pos ⟨rfl, q⟩, if_pos q]
      · rw [if_neg (fun z => q z.2), if_neg q]
    · rw [setI_ne (by omega), setI_at, setI_ne (by omega)]
      by_cases q : i = kk - 1
      · rw [if_pos ⟨rfl, q⟩, if_pos q]
      · rw [if_neg (fun z => q z.2), if_neg q]
    · rw [setI_at, setI_ne (by omega), setI_ne (by omega)]
      by_cases q : i = kk - 1
      · rw [if_pos ⟨rfl, q⟩, if_pos q]
      · rw [if_neg (fun z => q z.2), if_neg q]
  refine ⟨fun c' q1 q2 q3 => by rw [setI_ne q3, setI_ne q2, setI_ne q1, a c' q1 q2 q3], b, fun c' i hc => ?_⟩
  rw [at' c' i hc, c c' kk hc, c c' i hc, if_neg (by omega : ¬ kk + 1 < kk)]
  by_cases q : i = kk - 1
  · rw [if_pos q, if_pos (by omega), show kk = i + 1 by omega]
  · rw [if_neg q]
    by_cases q2 : i + 1 < kk
    · rw [if_pos q2, if_pos (by omega)]
    · rw [if_neg q2, if_neg (by omega)]
theorem tldM_fin {h H : zH} {k m s : Nat} {v : Int} (e : ∀ c, c ≠ 54 → c ≠ 55 → c ≠ 56 → c ≠ 52 → H.1 c = h.1 c) (e2 : H.2 = h.2) (e52 : ∀ i, i ≠ 5 → H.1 52 i = h.1 52 i) (hm : (h.1 52 5 = 40 ∧ m = 39 ∧ s = 1) ∨ (h.1 52 5 < 40 ∧ h.1 52 5 = m ∧ s = 0)) (hs : ∀ c i, c = 54 ∨ c = 55 ∨ c = 56 → i < m → H.1 c i = h.1 c (i + s)) : tldM h (endM H m k (h.1 53 k) v) k v := by
  unfold endM
  refine ⟨fun c a1 a2 a3 a4 a5 => ?_, e2, fun i a1 a2 => ?_, fun i => ?_, m, s, hm, ?_, ?_, fun c i hc hi => ?_, ?_, ?_, ?_⟩
  · rw [setI_ne a2, setI_ne a1, setI_ne a1, setI_ne a5, setI_ne a4, setI_ne a3, e c a3 a4 a5 a1]
  · rw [setI_ne (by omega), setI_n2 a1, setI_n2 a2, setI_ne (by omega), setI_ne (by omega), setI_ne (by omega), e52 i a2]
  · rw [setI_at, setI_ne (by omega), setI_ne (by omega), setI_ne (by omega), setI_ne (by omega), setI_ne (by omega), e 53 (by omega) (by omega) (by omega) (by omega)]
    by_cases q : i = k
    · rw [if_pos ⟨rfl, q⟩, if_pos q]
    · rw [if_neg (fun z => q z.2), if_neg q]
  · rw [setI_ne (by omega), setI_n2 (by omega), setI_eq]
  · rw [setI_ne (by omega), setI_eq]
  · rw [← hs c i hc hi, setI_ne (by omega), setI_ne (by omega), setI_ne (by omega)]
    rcases hc with rfl | rfl | rfl
    · rw [setI_ne (by omega), setI_ne (by omega), setI_n2 (by omega)]
    · rw [setI_ne (by omega), setI_n2 (by omega), setI_ne (by omega)]
    · rw [setI_n2 (by omega), setI_ne (by omega), setI_ne (by omega)]
  · rw [setI_ne (by omega), setI_ne (by omega), setI_ne (by omega), setI_ne (by omega), setI_ne (by omega), setI_eq]
  · rw [setI_ne (by omega), setI_ne (by omega), setI_ne (by omega), setI_ne (by omega), setI_eq]
  · rw [setI_ne (by omega), setI_ne (by omega), setI_ne (by omega), setI_eq]
def becR (h g : zH) (k : Nat) (v : Int) (x : Option zV) : Prop := (h.1 53 k = v ∧ g = h ∧ x = some (sI v)) ∨ (¬ h.1 53 k = v ∧ tldM h g k v ∧ x = some (sI (h.1 53 k)))
def tellR (h g : zH) (w : Int) (rc j : Nat) (v : Int) (x : Option zV) : Prop := (h.1 rc j = v ∧ g = h ∧ x = some (sI v)) ∨ (¬ h.1 rc j = v ∧ tldC h g w rc j v ∧ x = some (sI (h.1 rc j)))
set_option maxHeartbeats 4000000 in
theorem c_X9_becomes {d : Nat} (h : zH) (k : Nat) (v : Int) (hk : k < 88) (hv : inR v) (hold : inR (h.1 53 k)) (hn : 0 ≤ h.1 52 5 ∧ h.1 52 5 ≤ 40) : zC d k_X9_becomes [sR 52, sI k, sI v] h (fun x g => becR h g k v x) := by
  have k0 : (0 : Int) ≤ (k : Int) := by omega
  have k1 : (k : Int) < 88 := by omega
  refine zC_of (by decide +kernel) (Nat.le_of_ble_eq_true rfl) (fun X C E => ?_)
  have rest : ∀ (H : zH) (m : Nat), H.1 52 5 = m → m < 40 → ¬ h.1 53 k = v → tldM h (endM H m k (h.1 53 k) v) k v → zJ X 97 [some (sR 52), some (sI k), some (sI v), some (sI (h.1 53 k))] [] H := by
    intro H m hm h40 hne ht
    have q1 : 0 ≤ H.1 52 5 := by omega
    have q2 : H.1 52 5 < 40 := by omega
    refine zrun_sound t_X9_becomes C E [] 80 _ _ _ _ ?_
    refine And.intro q1 (And.intro q2 (And.intro q1 (And.intro q2 (And.intro q1 (And.intro q2 (And.intro k0 (And.intro k1 ?_)))))))
    refine Or.inr ⟨hne, ?_, rfl⟩
    have e : setI (setI (setI (setI (setI (setI H 54 (H.1 52 5).toNat k) 55 (H.1 52 5).toNat (h.1 53 k)) 56 (H.1 52 5).toNat v) 52 5 (H.1 52 5 + 1)) 52 4 (H.1 52 5 + 1)) 53 k v = endM H m k (h.1 53 k) v := by
      rw [hm]
      rfl
    rw [← e] at ht
    exact ht
  have loop : h.1 52 5 = 40 → ¬ h.1 53 k = v → ∀ (n kk : Nat) (H : zH), kk + n = 40 → 1 ≤ kk → shM h H kk → zJ X 26 [some (sR 52), some (sI k), some (sI v), some (sI (h.1 53 k)), some (sI kk)] [] H := by
    intro h40 hne n
    induction n with
    | zero =>
      intro kk H hkn hk1 hs
      have hkk : kk = 40 := by omega
      subst hkk
      refine zrun_sound t_X9_becomes C E [97] 80 _ _ _ _ ?_
      refine And.intro (by omega) (And.intro (by omega) (And.intro (fun c => ?_) (fun c => absurd (by omega) c)))
      obtain ⟨a, b, c⟩ := hs
      have e5 : H.1 52 5 = 40 := by rw [a 52 (by omega) (by omega) (by omega)]; exact h40
      refine zJ_le (rest (setI H 52 5 (H.1 52 5 - 1)) 39 (by rw [setI_eq, e5]; rfl) (by omega) hne (tldM_fin (s := 1) (fun c' a1 a2 a3 a4 => by rw [setI_ne a4, a c' a1 a2 a3]) b (fun i hi => by rw [setI_n2 hi, a 52 (by omega) (by omega) (by omega)]) (Or.inl ⟨h40, rfl, rfl⟩) (fun c' i hc hi => by rw [setI_ne (by omega), c c' i hc, if_pos (by omega)]))) (And.intro rfl (And.intro rfl (And.intro rfl (And.intro rfl trivial)))) rfl rfl
    | succ n ih =>
      intro kk H hkn hk1 hs
      have b0 : (0 : Int) ≤ (kk : Int) := by omega
      have b1 : (kk : Int) < 40 := by omega
      have b2 : (0 : Int) ≤ (kk : Int) - 1 := by omega
      have b3 : (kk : Int) - 1 < 40 := by omega
      have tn : ((kk : Int) - 1).toNat = kk - 1 := by omega
      have fin := ih (kk + 1) _ (by omega) (by omega) (shM_s hs hk1)
      refine zrun_sound t_X9_becomes C E [26] 80 _ _ _ _ ?_
      refine And.intro (by omega) (And.intro (by omega) (And.intro (fun c => absurd c (by omega)) (fun c => ?_)))
      refine And.intro b0 (And.intro b1 (And.intro b2 (And.intro b3 (And.intro b0 (And.intro b1 (And.intro b2 (And.intro b3 (And.intro b0 (And.intro b1 (And.intro b2 (And.intro b3 ?_)))))))))))
      refine zJ_le fin (And.intro rfl (And.intro rfl (And.intro rfl (And.intro rfl (And.intro rfl trivial))))) rfl ?_
      rw [← tn]
      rfl
  refine zrun_sound t_X9_becomes C E [26, 97] 80 _ _ _ _ ?_
  refine And.intro k0 (And.intro k1 (And.intro hold (And.intro hv (And.intro (fun c => ?_) (fun c => Or.inl ⟨c, rfl, congrArg (fun z => some (sI z)) c⟩)))))
  replace c : ¬ h.1 53 k = v := c
  refine And.intro (by omega) (And.intro (by omega) (And.intro (fun c2 => ?_) (fun c2 => ?_)))
  · refine zJ_le (rest h (h.1 52 5).toNat (by omega) (by omega) c (tldM_fin (s := 0) (fun c' _ _ _ _ => rfl) rfl (fun i _ => rfl) (Or.inr ⟨by omega, by omega, rfl⟩) (fun c' i _ _ => rfl))) (And.intro rfl (And.intro rfl (And.intro rfl (And.intro rfl trivial)))) rfl rfl
  · exact zJ_le (loop c2 c 39 1 h (by omega) (by omega) ⟨fun _ _ _ _ => rfl, rfl, fun c' i _ => by rw [if_neg (by omega)]⟩) (And.intro rfl (And.intro rfl (And.intro rfl (And.intro rfl (And.intro rfl trivial))))) rfl rfl
theorem row_eq {h : zH} {w : Int} {rc o j : Nat} (hE : Ieq h) (hr : rowOK w rc o j) : h.1 53 (o + j) = h.1 rc j := by
  obtain ⟨-, -, -, -, e4, e5, e6⟩ := hE
  unfold rowOK at hr
  rcases hr with ⟨-, rfl, rfl, q⟩ | ⟨-, rfl, rfl, q⟩ | ⟨-, rfl, rfl, q⟩ | ⟨-, rfl, rfl, q⟩ | ⟨-, rfl, rfl, q⟩
  · exact (e5 j q).2.2.2.1
  · exact (e5 j q).2.2.2.2.1
  · exact (e5 j q).2.2.2.2.2
  · rw [Nat.zero_add]; exact e4 j q
  · exact e6 j q
theorem row_in {h : zH} {w : Int} {rc o j : Nat} (hV : VV h) (hr : rowOK w rc o j) : inW w (h.1 rc j) := by
  obtain ⟨-, -, -, v4, -, v6, v7⟩ := hV
  unfold rowOK at hr
  unfold inW
  rcases hr with ⟨rfl, rfl, rfl, q⟩ | ⟨rfl, rfl, rfl, q⟩ | ⟨rfl, rfl, rfl, q⟩ | ⟨rfl, rfl, rfl, q⟩ | ⟨rfl, rfl, rfl, q⟩
  · rw [if_neg (by decide), if_neg (by decide)]; exact (v6 j q).1
  · rw [if_pos (by decide)]; exact (v6 j q).2.1
  · rw [if_pos (by decide)]; exact (v6 j q).2.2
  · rw [if_neg (by decide), if_neg (by decide)]; exact v4 j q
  · rw [if_neg (by decide), if_pos (by decide)]; exact v7 j q
theorem inW_R {w v : Int} (h : inW w v) : inR v := by
  unfold inW at h
  split at h
  · omega
  · split at h <;> omega
theorem rowOK_b {w : Int} {rc o j : Nat} (hr : rowOK w rc o j) : (0 ≤ w ∧ w ≤ 4) ∧ (0 ≤ (j : Int) ∧ (j : Int) < numW w) ∧ offW w = o ∧ o + j < 88 ∧ (rc = 25 ∨ rc = 29 ∨ rc = 30 ∨ rc = 31 ∨ rc = 32) := by
  unfold rowOK at hr
  unfold numW offW
  rcases hr with ⟨rfl, rfl, rfl, q⟩ | ⟨rfl, rfl, rfl, q⟩ | ⟨rfl, rfl, rfl, q⟩ | ⟨rfl, rfl, rfl, q⟩ | ⟨rfl, rfl, rfl, q⟩
  · exact ⟨by decide, by rw [if_neg (by decide), if_neg (by decide)]; omega, by decide, by omega, by omega⟩
  · exact ⟨by decide, by rw [if_neg (by decide), if_neg (by decide)]; omega, by decide, by omega, by omega⟩
  · exact ⟨by decide, by rw [if_neg (by decide), if_neg (by decide)]; omega, by decide, by omega, by omega⟩
  · exact ⟨by decide, by rw [if_pos (by decide)]; omega, by decide, by omega, by omega⟩
  · exact ⟨by decide, by rw [if_neg (by decide), if_pos (by decide)]; omega, by decide, by omega, by omega⟩
set_option maxHeartbeats 1000000 in
theorem Inv_tell {h g g' : zH} {w v : Int} {rc o j : Nat} (hI : Inv2 h) (hr : rowOK w rc o j) (hv : inW w v) (hC : tldC h g w rc j v) (hM : tldM g g' (o + j) v) : Inv2 g' := by
  obtain ⟨r1, r2, r3, r4, r5⟩ := rowOK_b hr
  have hold := row_in hI.1.1 hr
  have heq := row_eq hI.1.2.1 hr
  obtain ⟨c1, c2, ⟨c3, c4, c5⟩, c6⟩ := hI.1.2.2.2.2.2.1
  obtain ⟨a1, a2, a3, m, s, a4, a5, a6, a7, a8, a9, a10, a11⟩ := hC
  obtain ⟨b1, b2, b3, b4, m', s', b5, b6, b7, b8, b9, b10, b11⟩ := hM
  have g52 := a1 52 (by omega) (by omega) (by omega) (by omega) (by omega) (by omega)
  have g53 := a1 53 (by omega) (by omega) (by omega) (by omega) (by omega) (by omega)
  have g54 := a1 54 (by omega) (by omega) (by omega) (by omega) (by omega) (by omega)
  have g55 := a1 55 (by omega) (by omega) (by omega) (by omega) (by omega) (by omega)
  have g56 := a1 56 (by omega) (by omega) (by omega) (by omega) (by omega) (by omega)
  rw [g52, c1] at b5
  have hms : m' = m ∧ s' = s := by omega
  obtain ⟨rfl, rfl⟩ := hms
  have k6 := b1 6 (by omega) (by omega) (by omega) (by omega) (by omega)
  have k40 := b1 40 (by omega) (by omega) (by omega) (by omega) (by omega)
  have k41 := b1 41 (by omega) (by omega) (by omega) (by omega) (by omega)
  have k42 := b1 42 (by omega) (by omega) (by omega) (by omega) (by omega)
  have k43 := b1 43 (by omega) (by omega) (by omega) (by omega) (by omega)
  refine Inv_row (rc := rc) (o := o) (j := j) (v := v) hI hr hv (fun c q => ?_) (b2.trans a2) (fun i q1 q2 => ?_) (fun c i q => ?_) (fun i => ?_) ⟨?_, ?_, ⟨?_, ?_, ?_⟩, fun i hi => ?_⟩
  · simp [chgB] at q
    rw [b1 c (by omega) (by omega) (by omega) (by omega) (by omega), a1 c (by omega) (by omega) (by omega) (by omega) (by omega) (by omega)]
  · rw [b3 i q1 q2, g52]
  · rw [b1 c (by omega) (by omega) (by omega) (by omega) (by omega)]
    by_cases e : c = rc
    · subst e
      rw [a3 i]
      by_cases e2 : i = j
      · rw [if_pos e2, if_pos ⟨rfl, e2⟩]
      · rw [if_neg e2, if_neg (fun z => e2 z.2)]
    · rw [a1 c (by omega) (by omega) (by omega) (by omega) (by omega) e, if_neg (fun z => e z.1)]
  · rw [b4 i, g53]
  · rw [b6, k6, a5]
  · rw [b7, k6, a6]
  · rw [k6, a5]; omega
  · rw [k6, a5, a6]; omega
  · rw [k6, a6]; omega
  · rw [k6, a6] at hi
    by_cases e : i = m'
    · subst e
      rw [k40, k41, k42, k43, a8, a9, a10, a11, b9, b10, b11, g53, heq, r3]
      exact ⟨r1, r2, by omega, rfl, rfl, hold, hv⟩
    · have him : i < m' := by omega
      rw [k40, k41, k42, k43, a7 40 i (by omega) him, a7 41 i (by omega) him, a7 42 i (by omega) him, a7 43 i (by omega) him, b8 54 i (by omega) him, b8 55 i (by omega) him, b8 56 i (by omega) him, g54, g55, g56]
      exact c6 (i + s') (by omega)
/-- both sides told the same -/
theorem tell_fin {h g : zH} {w v : Int} {rc o j : Nat} {x : Option zV} (hI : Inv2 h) (hr : rowOK w rc o j) (hv : inW w v) (hT : tellR h g w rc j v x) : (∃ r : Int, x = some (sI r)) ∧ (∀ x' g', becR g g' (o + j) v x' → x' = x ∧ Inv2 g') ∧ g.1 52 = h.1 52 ∧ g.1 53 = h.1 53 := by
  have heq := row_eq hI.1.2.1 hr
  obtain ⟨-, -, -, -, r5⟩ := rowOK_b hr
  rcases hT with ⟨t1, rfl, rfl⟩ | ⟨t1, t2, rfl⟩
  · refine ⟨⟨_, rfl⟩, ?_, rfl, rfl⟩
    rintro x' g' (⟨z1, rfl, rfl⟩ | ⟨z1, z2, rfl⟩)
    · exact ⟨rfl, hI⟩
    · exact absurd (heq.trans t1) z1
  · have g52 := t2.1 52 (by omega) (by omega) (by omega) (by omega) (by omega) (by omega)
    have g53 := t2.1 53 (by omega) (by omega) (by omega) (by omega) (by omega) (by omega)
    refine ⟨⟨_, rfl⟩, ?_, g52, g53⟩
    rintro x' g' (⟨z1, rfl, rfl⟩ | ⟨z1, z2, rfl⟩)
    · rw [g53] at z1
      exact absurd (heq.symm.trans z1) t1
    · exact ⟨by rw [g53, heq], Inv_tell hI hr hv t2 z2⟩
theorem tellR_x {h g : zH} {w : Int} {rc j : Nat} {v : Int} {x : Option zV} (hT : tellR h g w rc j v x) : ∃ r : Int, x = some (sI r) := by
  rcases hT with ⟨-, -, z⟩ | ⟨-, -, z⟩
  · exact ⟨_, z⟩
  · exact ⟨_, z⟩
theorem becR_x {h g : zH} {k : Nat} {v : Int} {x : Option zV} (hT : becR h g k v x) : ∃ r : Int, x = some (sI r) := by
  rcases hT with ⟨-, -, z⟩ | ⟨-, -, z⟩
  · exact ⟨_, z⟩
  · exact ⟨_, z⟩
theorem c_tell {d : Nat} (hd : 4 ≤ d) (h : zH) (w a v : Int) (rc o j : Nat) (ea : a = j) (hr : rowOK w rc o j) (hv : inR v) (hV : VV h) (hn : 0 ≤ h.1 6 5 ∧ h.1 6 5 ≤ 40) : zC d k_X1_tell [sR 6, sI w, sI a, sI v] h (fun x g => tellR h g w rc j v x) := by
  subst ea
  exact c_X1_tell hd h w v rc o j hr hv (inW_R (row_in hV hr)) hn
theorem c_bec {d : Nat} (h : zH) (a v : Int) (k : Nat) (ea : a = k) (hk : k < 88) (hv : inR v) (hold : inR (h.1 53 k)) (hn : 0 ≤ h.1 52 5 ∧ h.1 52 5 ≤ 40) : zC d k_X9_becomes [sR 52, sI a, sI v] h (fun x g => becR h g k v x) := by
  subst ea
  exact c_X9_becomes h k v hk hv hold hn
theorem c_X8_safe {d : Nat} (hd : 6 ≤ d) (h : zH) (a v : Int) (ha : inR a) (hv : inR v) (hV : VV h) (hn : 0 ≤ h.1 6 5 ∧ h.1 6 5 ≤ 40) : zC d k_X8_safe [sR 0, sI a, sI v] h (fun x g => (¬ (okP h a ∧ 0 ≤ v ∧ v ≤ 999) ∧ g = h ∧ x = some (sI (-1))) ∨ ((okP h a ∧ 0 ≤ v ∧ v ≤ 999) ∧ tellR h g 3 25 a.toNat v x)) := by
  obtain ⟨⟨hv1, hv2, hv3, hv4, hv5⟩, -⟩ := id hV
  refine zC_of (by decide +kernel) (Nat.le_of_ble_eq_true rfl) (fun X C E => zrun_sound t_X8_safe C E [] 60 _ _ _ _ ?_)
  refine zcall_i (d' := d - 1) (by omega) (c_X8_isPlace (by omega) h a ha hv3) ?_
  rintro _ _ ⟨rfl, rfl⟩
  refine And.intro g_in (And.intro (fun c1 => Or.inl ⟨fun z => g_f c1 z.1, rfl, rfl⟩) (fun c1 => ?_))
  refine zcall_i (d' := d - 1) (by omega) (c_X8_within h v 0 999 hv (by omega) (by omega)) ?_
  rintro _ _ ⟨rfl, rfl⟩
  refine And.intro g_in (And.intro (fun c2 => ?_) (fun c2 => Or.inl ⟨fun z => g_f c2 z.2, rfl, rfl⟩))
  have q1 := g_t c1
  have q2 := g_t c2
  refine zcall_i (d' := d - 1) (by omega) (c_tell (by omega) h 3 a v 25 0 a.toNat (by omega) (Or.inr (Or.inr (Or.inr (Or.inl ⟨rfl, rfl, rfl, by omega⟩)))) hv hV hn) ?_
  intro x g hT
  obtain ⟨r, rfl⟩ := tellR_x hT
  exact Or.inr ⟨⟨q1, q2⟩, hT⟩
theorem c_X9_safe {d : Nat} (hd : 6 ≤ d) (h : zH) (a v P : Int) (ha : inR a) (hv : inR v) (eP : h.1 52 20 = P) (hP : 0 ≤ P ∧ P ≤ 12) (hold : ∀ k : Nat, k < 88 → inR (h.1 53 k)) (hn : 0 ≤ h.1 52 5 ∧ h.1 52 5 ≤ 40) : zC d k_X9_safe [sR 52, sI a, sI v] h (fun x g => (¬ ((0 ≤ a ∧ a < P) ∧ 0 ≤ v ∧ v ≤ 999) ∧ g = h ∧ x = some (sI (-1))) ∨ (((0 ≤ a ∧ a < P) ∧ 0 ≤ v ∧ v ≤ 999) ∧ becR h g a.toNat v x)) := by
  subst eP
  refine zC_of (by decide +kernel) (Nat.le_of_ble_eq_true rfl) (fun X C E => zrun_sound t_X9_safe C E [] 60 _ _ _ _ ?_)
  refine zcall_i (d' := d - 1) (by omega) (c_X9_isPlace (by omega) h a ha hP) ?_
  rintro _ _ ⟨rfl, rfl⟩
  refine And.intro g_in (And.intro (fun c1 => Or.inl ⟨fun z => g_f c1 z.1, rfl, rfl⟩) (fun c1 => ?_))
  refine zcall_i (d' := d - 1) (by omega) (c_X9_within h (i2l v) 0 999 v 0 999 (i2l_toInt hv) (by decide) (by decide)) ?_
  rintro _ _ ⟨rfl, rfl⟩
  refine And.intro g_in (And.intro (fun c2 => Or.inl ⟨fun z => g_f c2 z.2, rfl, rfl⟩) (fun c2 => ?_))
  have q1 := g_t c1
  have q2 := g_t c2
  refine zcall_i (d' := d - 1) (by omega) (c_bec h a v a.toNat (by omega) (by omega) hv (hold _ (by omega)) hn) ?_
  intro x g hT
  obtain ⟨r, rfl⟩ := becR_x hT
  exact Or.inr ⟨⟨q1, q2⟩, hT⟩
theorem may_R {h : zH} (hV : VV h) (hE : Ieq h) : ∀ k : Nat, k < 88 → inR (h.1 53 k) := fun k hk => by
  have := may_b hV hE k hk
  omega
theorem pr_safe {d : Nat} (hd : 6 ≤ d) {a v : Int} (ha : inR a) (hv : inR v) : Pair2 d k_X8_safe k_X9_safe [sI a, sI v] := fun h hI => by
  have hold := may_R hI.1.1 hI.1.2.1
  obtain ⟨c1, c2, ⟨c3, c4, c5⟩, -⟩ := id hI.1.2.2.2.2.2.1
  have x3 := hI.1.2.1.1.2.2.1
  have hv3 := hI.1.1.1.2.2.1
  refine zC_mono (c_X8_safe hd h a v ha hv hI.1.1 (by omega)) ?_
  rintro x g (⟨q, rfl, rfl⟩ | ⟨q, hT⟩)
  · refine ⟨_, rfl, zC_mono (c_X9_safe hd g a v _ ha hv x3 (by omega) hold (by omega)) ?_⟩
    rintro x g' (⟨z, rfl, rfl⟩ | ⟨z, -⟩)
    · exact ⟨rfl, hI⟩
    · exact absurd z q
  · have hr : rowOK 3 25 0 a.toNat := Or.inr (Or.inr (Or.inr (Or.inl ⟨rfl, rfl, rfl, by have := q.1.1; have := q.1.2; omega⟩)))
    have hi : inW 3 v := by
      unfold inW
      rw [if_neg (by decide), if_neg (by decide)]
      exact q.2
    obtain ⟨⟨r, rfl⟩, fin, e52, e53⟩ := tell_fin hI hr hi hT
    have x3' : g.1 52 20 = h.1 2 8 := by rw [e52]; exact x3
    refine ⟨_, rfl, zC_mono (c_X9_safe hd g a v _ ha hv x3' (by omega) (by rw [e53]; exact hold) (by rw [e52]; omega)) ?_⟩
    rintro x g' (⟨z, -, -⟩ | ⟨z, hB⟩)
    · exact absurd q z
    · exact fin x g' (by rw [Nat.zero_add]; exact hB)
theorem c_X8_sort {d : Nat} (hd : 6 ≤ d) (h : zH) (a v : Int) (ha : inR a) (hv : inR v) (hV : VV h) (hn : 0 ≤ h.1 6 5 ∧ h.1 6 5 ≤ 40) : zC d k_X8_sort [sR 0, sI a, sI v] h (fun x g => (¬ ((0 ≤ a ∧ a ≤ 3) ∧ 50 ≤ v ∧ v ≤ 400) ∧ g = h ∧ x = some (sI (-1))) ∨ (((0 ≤ a ∧ a ≤ 3) ∧ 50 ≤ v ∧ v ≤ 400) ∧ tellR h g 4 32 a.toNat v x)) := by
  refine zC_of (by decide +kernel) (Nat.le_of_ble_eq_true rfl) (fun X C E => zrun_sound t_X8_sort C E [] 60 _ _ _ _ ?_)
  refine zcall_i (d' := d - 1) (by omega) (c_X8_isSort (by omega) h a ha) ?_
  rintro _ _ ⟨rfl, rfl⟩
  refine And.intro g_in (And.intro (fun c1 => Or.inl ⟨fun z => g_f c1 z.1, rfl, rfl⟩) (fun c1 => ?_))
  refine zcall_i (d' := d - 1) (by omega) (c_X8_within h v 50 400 hv (by omega) (by omega)) ?_
  rintro _ _ ⟨rfl, rfl⟩
  refine And.intro g_in (And.intro (fun c2 => ?_) (fun c2 => Or.inl ⟨fun z => g_f c2 z.2, rfl, rfl⟩))
  have q1 := g_t c1
  have q2 := g_t c2
  refine zcall_i (d' := d - 1) (by omega) (c_tell (by omega) h 4 a v 32 84 a.toNat (by omega) (Or.inr (Or.inr (Or.inr (Or.inr ⟨rfl, rfl, rfl, by omega⟩)))) hv hV hn) ?_
  intro x g hT
  obtain ⟨r, rfl⟩ := tellR_x hT
  exact Or.inr ⟨⟨q1, q2⟩, hT⟩
theorem c_X9_sort {d : Nat} (hd : 6 ≤ d) (h : zH) (a v : Int) (ha : inR a) (hv : inR v) (hold : ∀ k : Nat, k < 88 → inR (h.1 53 k)) (hn : 0 ≤ h.1 52 5 ∧ h.1 52 5 ≤ 40) : zC d k_X9_sort [sR 52, sI a, sI v] h (fun x g => (¬ ((0 ≤ a ∧ a ≤ 3) ∧ 50 ≤ v ∧ v ≤ 400) ∧ g = h ∧ x = some (sI (-1))) ∨ (((0 ≤ a ∧ a ≤ 3) ∧ 50 ≤ v ∧ v ≤ 400) ∧ becR h g (84 + a.toNat) v x)) := by
  refine zC_of (by decide +kernel) (Nat.le_of_ble_eq_true rfl) (fun X C E => zrun_sound t_X9_sort C E [] 60 _ _ _ _ ?_)
  refine zcall_i (d' := d - 1) (by omega) (c_X9_isSort (by omega) h a ha) ?_
  rintro _ _ ⟨rfl, rfl⟩
  refine And.intro g_in (And.intro (fun c1 => Or.inl ⟨fun z => g_f c1 z.1, rfl, rfl⟩) (fun c1 => ?_))
  refine zcall_i (d' := d - 1) (by omega) (c_X9_within h (i2l v) 50 400 v 50 400 (i2l_toInt hv) (by decide) (by decide)) ?_
  rintro _ _ ⟨rfl, rfl⟩
  refine And.intro g_in (And.intro (fun c2 => Or.inl ⟨fun z => g_f c2 z.2, rfl, rfl⟩) (fun c2 => ?_))
  have q1 := g_t c1
  have q2 := g_t c2
  refine zcall_i (d' := d - 1) (by omega) (c_bec h (84 + a) v (84 + a.toNat) (by omega) (by omega) hv (hold _ (by omega)) hn) ?_
  intro x g hT
  obtain ⟨r, rfl⟩ := becR_x hT
  exact Or.inr ⟨⟨q1, q2⟩, hT⟩
theorem pr_sort {d : Nat} (hd : 6 ≤ d) {a v : Int} (ha : inR a) (hv : inR v) : Pair2 d k_X8_sort k_X9_sort [sI a, sI v] := fun h hI => by
  have hold := may_R hI.1.1 hI.1.2.1
  obtain ⟨c1, c2, ⟨c3, c4, c5⟩, -⟩ := id hI.1.2.2.2.2.2.1
  refine zC_mono (c_X8_sort hd h a v ha hv hI.1.1 (by omega)) ?_
  rintro x g (⟨q, rfl, rfl⟩ | ⟨q, hT⟩)
  · refine ⟨_, rfl, zC_mono (c_X9_sort hd g a v ha hv hold (by omega)) ?_⟩
    rintro x g' (⟨z, rfl, rfl⟩ | ⟨z, -⟩)
    · exact ⟨rfl, hI⟩
    · exact absurd z q
  · have hr : rowOK 4 32 84 a.toNat := Or.inr (Or.inr (Or.inr (Or.inr ⟨rfl, rfl, rfl, by omega⟩)))
    have hi : inW 4 v := by
      unfold inW
      rw [if_neg (by decide), if_pos (by decide)]
      exact q.2
    obtain ⟨⟨r, rfl⟩, fin, e52, e53⟩ := tell_fin hI hr hi hT
    refine ⟨_, rfl, zC_mono (c_X9_sort hd g a v ha hv (by rw [e53]; exact hold) (by rw [e52]; omega)) ?_⟩
    rintro x g' (⟨z, -, -⟩ | ⟨z, hB⟩)
    · exact absurd q z
    · exact fin x g' hB
/-! alter: N ways, the way's hours fs ls -/
def okA (N fs ls a b v : Int) : Prop := (0 ≤ a ∧ a < N) ∧ ((b = 0 ∧ 0 ≤ v ∧ v ≤ 999) ∨ (b = 1 ∧ 0 ≤ v ∧ v ≤ ls) ∨ (b = 2 ∧ fs ≤ v ∧ v ≤ 1439))
theorem okA_r {N fs ls a b v : Int} (q : okA N fs ls a b v) (hN : N ≤ 24) : ∃ rc o : Nat, rowOK b rc o a.toNat ∧ (b = 0 → rc = 29 ∧ o = 12) ∧ (b = 1 → rc = 30 ∧ o = 36) ∧ (b = 2 → rc = 31 ∧ o = 60) := by
  obtain ⟨⟨q1, q2⟩, q3⟩ := q
  unfold rowOK
  rcases q3 with ⟨rfl, -⟩ | ⟨rfl, -⟩ | ⟨rfl, -⟩
  · exact ⟨29, 12, Or.inl ⟨rfl, rfl, rfl, by omega⟩, fun _ => ⟨rfl, rfl⟩, fun z => absurd z (by decide), fun z => absurd z (by decide)⟩
  · exact ⟨30, 36, Or.inr (Or.inl ⟨rfl, rfl, rfl, by omega⟩), fun z => absurd z (by decide), fun _ => ⟨rfl, rfl⟩, fun z => absurd z (by decide)⟩
  · exact ⟨31, 60, Or.inr (Or.inr (Or.inl ⟨rfl, rfl, rfl, by omega⟩)), fun z => absurd z (by decide), fun z => absurd z (by decide), fun _ => ⟨rfl, rfl⟩⟩
set_option maxHeartbeats 2000000 in
theorem c_X8_alter {d : Nat} (hd : 6 ≤ d) (h : zH) (a b v N fs ls : Int) (ha : inR a) (hb : inR b) (hv : inR v) (hV : VV h) (hn : 0 ≤ h.1 6 5 ∧ h.1 6 5 ≤ 40) (eN : h.1 2 10 = N) (ef : h.1 30 a.toNat = fs) (el : h.1 31 a.toNat = ls) : zC d k_X8_alter [sR 0, sI a, sI b, sI v] h (fun x g => (¬ okA N fs ls a b v ∧ g = h ∧ x = some (sI (-1))) ∨ (okA N fs ls a b v ∧ ∃ rc o : Nat, rowOK b rc o a.toNat ∧ tellR h g b rc a.toNat v x)) := by
  obtain ⟨⟨hv1, hv2, hv3, hv4, hv5⟩, -, -, -, -, hvh, -⟩ := id hV
  subst eN
  refine zC_of (by decide +kernel) (Nat.le_of_ble_eq_true rfl) (fun X C E => ?_)
  have bad : ¬ okA (h.1 2 10) fs ls a b v → zJ X 78 [some (sR 0), some (sI a), some (sI b), some (sI v)] [] h := fun q => zrun_sound t_X8_alter C E [] 60 _ _ _ _ (Or.inl ⟨q, rfl, rfl⟩)
  have good : okA (h.1 2 10) fs ls a b v → zJ X 80 [some (sR 0), some (sI a), some (sI b), some (sI v)] [] h := by
    intro q
    obtain ⟨rc, o, hr, -⟩ := okA_r q (by omega)
    have q0 := q.1.1
    refine zrun_sound t_X8_alter C E [] 60 _ _ _ _ ?_
    refine zcall_i (d' := d - 1) (by omega) (c_tell (by omega) h b a v rc o a.toNat (by omega) hr hv hV hn) ?_
    intro x g hT
    obtain ⟨r, rfl⟩ := tellR_x hT
    exact Or.inr ⟨q, rc, o, hr, hT⟩
  have two : (0 ≤ a ∧ a < h.1 2 10) → (0 ≤ b ∧ b ≤ 2) → (0 ≤ v ∧ v ≤ if b = 0 then 999 else 1439) → zJ X 42 [some (sR 0), some (sI a), some (sI b), some (sI v)] [] h := by
    intro q1 q2 q3
    have hh := hvh a.toNat (by omega)
    rw [ef, el] at hh
    have k0 := q1.1
    have k1 : a < 24 := by omega
    have three : ¬ (b = 1 ∧ ls < v) → zJ X 60 [some (sR 0), some (sI a), some (sI b), some (sI v)] [] h := by
      intro q4
      refine zrun_sound t_X8_alter C E [78, 80] 60 _ _ _ _ ?_
      refine And.intro hb (And.intro (by omega) (And.intro (fun c => ?_) (fun c => ?_)))
      · refine good ⟨q1, ?_⟩
        by_cases c0 : b = 0
        · rw [if_pos c0] at q3
          exact Or.inl ⟨c0, q3⟩
        · exact Or.inr (Or.inl ⟨by omega, q3.1, by omega⟩)
      · refine And.intro k0 (And.intro k1 (And.intro hv (And.intro (show inR (h.1 30 a.toNat) by omega) (And.intro (fun c2 => ?_) (fun c2 => ?_)))))
        · replace c2 : h.1 30 a.toNat ≤ v := c2
          rw [if_neg (by omega)] at q3
          exact good ⟨q1, Or.inr (Or.inr ⟨c, by omega, q3.2⟩)⟩
        · replace c2 : ¬ h.1 30 a.toNat ≤ v := c2
          refine bad (fun z => ?_)
          obtain ⟨-, z⟩ := z
          omega
    refine zrun_sound t_X8_alter C E [60, 78] 60 _ _ _ _ ?_
    refine And.intro hb (And.intro (by omega) (And.intro (fun c => three (fun z => c z.1)) (fun c => ?_)))
    refine And.intro k0 (And.intro k1 (And.intro hv (And.intro (show inR (h.1 31 a.toNat) by omega) (And.intro (fun c2 => ?_) (fun c2 => ?_)))))
    · replace c2 : h.1 31 a.toNat < v := c2
      refine bad (fun z => ?_)
      obtain ⟨-, z⟩ := z
      omega
    · replace c2 : ¬ h.1 31 a.toNat < v := c2
      exact three (fun z => by omega)
  refine zrun_sound t_X8_alter C E [42] 60 _ _ _ _ ?_
  refine zcall_i (d' := d - 1) (by omega) (c_X8_isWay (by omega) h a ha hv4) ?_
  rintro _ _ ⟨rfl, rfl⟩
  refine And.intro g_in (And.intro (fun c1 => Or.inl ⟨fun z => g_f c1 z.1, rfl, rfl⟩) (fun c1 => ?_))
  refine zcall_i (d' := d - 1) (by omega) (c_X8_within h b 0 2 hb (by omega) (by omega)) ?_
  rintro _ _ ⟨rfl, rfl⟩
  refine And.intro g_in (And.intro (fun c2 => ?_) (fun c2 => Or.inl ⟨fun z => g_f c2 (by obtain ⟨-, z⟩ := z; omega), rfl, rfl⟩))
  have q1 := g_t c1
  have q2 := g_t c2
  have hh := hvh a.toNat (by omega)
  rw [ef, el] at hh
  refine And.intro hb (And.intro (fun c3 => ?_) (fun c3 => ?_))
  · refine zcall_i (d' := d - 1) (by omega) (c_X8_within h v 0 1439 hv (by omega) (by omega)) ?_
    rintro _ _ ⟨rfl, rfl⟩
    refine And.intro g_in (And.intro (fun c4 => ?_) (fun c4 => Or.inl ⟨fun z => g_f c4 (by obtain ⟨-, z⟩ := z; omega), rfl, rfl⟩))
    exact two q1 q2 (by rw [if_neg c3]; exact g_t c4)
  · refine zcall_i (d' := d - 1) (by omega) (c_X8_within h v 0 999 hv (by omega) (by omega)) ?_
    rintro _ _ ⟨rfl, rfl⟩
    refine And.intro g_in (And.intro (fun c4 => ?_) (fun c4 => Or.inl ⟨fun z => g_f c4 (by obtain ⟨-, z⟩ := z; omega), rfl, rfl⟩))
    exact two q1 q2 (by rw [if_pos c3]; exact g_t c4)
set_option maxHeartbeats 2000000 in
theorem c_X9_alter {d : Nat} (hd : 6 ≤ d) (h : zH) (a b v N fs ls : Int) (ha : inR a) (hb : inR b) (hv : inR v) (eN : h.1 52 21 = N) (hN : 0 ≤ N ∧ N ≤ 24) (ef : h.1 53 (36 + a.toNat) = fs) (el : h.1 53 (60 + a.toNat) = ls) (hf : inR fs) (hl : inR ls) (hold : ∀ k : Nat, k < 88 → inR (h.1 53 k)) (hn : 0 ≤ h.1 52 5 ∧ h.1 52 5 ≤ 40) : zC d k_X9_alter [sR 52, sI a, sI b, sI v] h (fun x g => (¬ okA N fs ls a b v ∧ g = h ∧ x = some (sI (-1))) ∨ (okA N fs ls a b v ∧ ∃ o : Nat, (b = 0 → o = 12) ∧ (b = 1 → o = 36) ∧ (b = 2 → o = 60) ∧ becR h g (o + a.toNat) v x)) := by
  subst eN
  refine zC_of (by decide +kernel) (Nat.le_of_ble_eq_true rfl) (fun X C E => zrun_sound t_X9_alter C E [] 60 _ _ _ _ ?_)
  refine zcall_i (d' := d - 1) (by omega) (c_X9_isWay (by omega) h a ha hN) ?_
  rintro _ _ ⟨rfl, rfl⟩
  refine And.intro g_in (And.intro (fun c1 => ?_) (fun c1 => Or.inl ⟨fun z => g_f c1 z.1, rfl, rfl⟩))
  have q1 := g_t c1
  have e36 : (36 + a).toNat = 36 + a.toNat := by omega
  have e60 : (60 + a).toNat = 60 + a.toNat := by omega
  refine And.intro hb (And.intro (fun c => Or.inl ⟨fun z => by obtain ⟨-, z⟩ := z; omega, rfl, rfl⟩) ⟨fun c => ?_, fun c => ?_, fun c => ?_, trivial⟩)
  · refine zcall_i (d' := d - 1) (by omega) (c_X9_within h (i2l v) 0 999 v 0 999 (i2l_toInt hv) (by decide) (by decide)) ?_
    rintro _ _ ⟨rfl, rfl⟩
    refine And.intro g_in (And.intro (fun c2 => Or.inl ⟨fun z => g_f c2 (by obtain ⟨-, z⟩ := z; omega), rfl, rfl⟩) (fun c2 => ?_))
    have q2 := g_t c2
    refine zcall_i (d' := d - 1) (by omega) (c_bec h (12 + a) v (12 + a.toNat) (by omega) (by omega) hv (hold _ (by omega)) hn) ?_
    intro x g hT
    obtain ⟨r, rfl⟩ := becR_x hT
    exact Or.inr ⟨⟨q1, Or.inl ⟨c, q2⟩⟩, 12, fun _ => rfl, fun z => by omega, fun z => by omega, hT⟩
  · have k0 : 0 ≤ 60 + a := by omega
    have k1 : 60 + a < 88 := by omega
    refine And.intro k0 (And.intro k1 ?_)
    rw [e60, el]
    refine zcall_i (d' := d - 1) (by omega) (c_X9_within h (i2l v) 0 (i2l ls) v 0 ls (i2l_toInt hv) (by decide) (i2l_toInt hl)) ?_
    rintro _ _ ⟨rfl, rfl⟩
    refine And.intro g_in (And.intro (fun c2 => Or.inl ⟨fun z => g_f c2 (by obtain ⟨-, z⟩ := z; omega), rfl, rfl⟩) (fun c2 => ?_))
    have q2 := g_t c2
    refine zcall_i (d' := d - 1) (by omega) (c_bec h (36 + a) v (36 + a.toNat) (by omega) (by omega) hv (hold _ (by omega)) hn) ?_
    intro x g hT
    obtain ⟨r, rfl⟩ := becR_x hT
    exact Or.inr ⟨⟨q1, Or.inr (Or.inl ⟨by omega, q2⟩)⟩, 36, fun z => by omega, fun _ => rfl, fun z => by omega, hT⟩
  · have k0 : 0 ≤ 36 + a := by omega
    have k1 : 36 + a < 88 := by omega
    refine And.intro k0 (And.intro k1 ?_)
    rw [e36, ef]
    refine zcall_i (d' := d - 1) (by omega) (c_X9_within h (i2l v) (i2l fs) 1439 v fs 1439 (i2l_toInt hv) (i2l_toInt hf) (by decide)) ?_
    rintro _ _ ⟨rfl, rfl⟩
    refine And.intro g_in (And.intro (fun c2 => Or.inl ⟨fun z => g_f c2 (by obtain ⟨-, z⟩ := z; omega), rfl, rfl⟩) (fun c2 => ?_))
    have q2 := g_t c2
    refine zcall_i (d' := d - 1) (by omega) (c_bec h (60 + a) v (60 + a.toNat) (by omega) (by omega) hv (hold _ (by omega)) hn) ?_
    intro x g hT
    obtain ⟨r, rfl⟩ := becR_x hT
    exact Or.inr ⟨⟨q1, Or.inr (Or.inr ⟨by omega, q2⟩)⟩, 60, fun z => by omega, fun z => by omega, fun _ => rfl, hT⟩
theorem pr_alter {d : Nat} (hd : 6 ≤ d) {a b v : Int} (ha : inR a) (hb : inR b) (hv : inR v) : Pair2 d k_X8_alter k_X9_alter [sI a, sI b, sI v] := fun h hI => by
  have hold := may_R hI.1.1 hI.1.2.1
  obtain ⟨c1, c2, ⟨c3, c4, c5⟩, -⟩ := id hI.1.2.2.2.2.2.1
  have x4 := hI.1.2.1.1.2.2.2.1
  have e5 := hI.1.2.1.2.2.2.2.2.1
  have hv4 := hI.1.1.1.2.2.2.1
  have hvh := hI.1.1.2.2.2.2.2.1
  by_cases hw : 0 ≤ a ∧ a < 24
  · have hh := hvh a.toNat (by omega)
    have ee := e5 a.toNat (by omega)
    refine zC_mono (c_X8_alter hd h a b v _ _ _ ha hb hv hI.1.1 (by omega) rfl rfl rfl) ?_
    rintro x g (⟨q, rfl, rfl⟩ | ⟨q, rc, o, hr, hT⟩)
    · refine ⟨_, rfl, zC_mono (c_X9_alter hd g a b v _ _ _ ha hb hv x4 (by omega) ee.2.2.2.2.1 ee.2.2.2.2.2 (by omega) (by omega) hold (by omega)) ?_⟩
      rintro x g' (⟨z, rfl, rfl⟩ | ⟨z, -⟩)
      · exact ⟨rfl, hI⟩
      · exact absurd z q
    · have hi : inW b v := by
        obtain ⟨-, q⟩ := q
        unfold inW
        rcases q with ⟨rfl, q⟩ | ⟨rfl, q⟩ | ⟨rfl, q⟩
        · rw [if_neg (by decide), if_neg (by decide)]; exact q
        · rw [if_pos (by decide)]; omega
        · rw [if_pos (by decide)]; omega
      obtain ⟨⟨r, rfl⟩, fin, e52, e53⟩ := tell_fin hI hr hi hT
      have x4' : g.1 52 21 = h.1 2 10 := by rw [e52]; exact x4
      have x5' : g.1 53 (36 + a.toNat) = h.1 30 a.toNat := by rw [e53]; exact ee.2.2.2.2.1
      have x6' : g.1 53 (60 + a.toNat) = h.1 31 a.toNat := by rw [e53]; exact ee.2.2.2.2.2
      refine ⟨_, rfl, zC_mono (c_X9_alter hd g a b v _ _ _ ha hb hv x4' (by omega) x5' x6' (by omega) (by omega) (by rw [e53]; exact hold) (by rw [e52]; omega)) ?_⟩
      rintro x g' (⟨z, -, -⟩ | ⟨z, o', o1, o2, o3, hB⟩)
      · exact absurd q z
      · have eo : o' = o := by
          unfold rowOK at hr
          obtain ⟨-, q⟩ := q
          omega
        subst eo
        exact fin x g' hB
  · have no : ∀ N fs ls : Int, N ≤ 24 → ¬ okA N fs ls a b v := fun N fs ls hN z => hw ⟨z.1.1, by have := z.1.2; omega⟩
    refine zC_mono (c_X8_alter hd h a b v _ _ _ ha hb hv hI.1.1 (by omega) rfl rfl rfl) ?_
    rintro x g (⟨q, rfl, rfl⟩ | ⟨q, -⟩)
    · by_cases hp : inR (g.1 53 (36 + a.toNat)) ∧ inR (g.1 53 (60 + a.toNat))
      · refine ⟨_, rfl, zC_mono (c_X9_alter hd g a b v _ _ _ ha hb hv x4 (by omega) rfl rfl hp.1 hp.2 hold (by omega)) ?_⟩
        rintro x g' (⟨z, rfl, rfl⟩ | ⟨z, -⟩)
        · exact ⟨rfl, hI⟩
        · exact absurd z (no _ _ _ (by omega))
      · refine ⟨_, rfl, zC_of (by decide +kernel) (Nat.le_of_ble_eq_true rfl) (fun X C E => zrun_sound t_X9_alter C E [] 60 _ _ _ _ ?_)⟩
        refine zcall_i (d' := d - 1) (by omega) (c_X9_isWay (by omega) g a ha (by omega)) ?_
        rintro _ _ ⟨rfl, rfl⟩
        refine And.intro g_in (And.intro (fun c1 => ?_) (fun c1 => ⟨rfl, hI⟩))
        have q1 := g_t c1
        exact absurd ⟨q1.1, by omega⟩ hw
    · exact absurd q (no _ _ _ (by omega))
/-! ===== marks; bodies are kept; the trace ===== -/
def okK (P n l a : Int) : Prop := (0 ≤ a ∧ a / 10000 < P ∧ a % 10000 ≤ 1439) ∧ ¬ (0 < n ∧ a % 10000 ≤ l % 10000)
set_option maxHeartbeats 1000000 in
theorem c_X8_mark {d : Nat} (hd : 4 ≤ d) (h : zH) (a P l : Int) (n : Nat) (ha : inR a) (eP : h.1 2 8 = P) (hP : 0 ≤ P ∧ P ≤ 12) (hn : h.1 0 9 = n) (h6 : n ≤ 6) (hl : ∀ k : Nat, n = k + 1 → h.1 15 k = l ∧ 0 ≤ l ∧ l ≤ 2147483647) :
    zC d k_X8_mark [sR 0, sI a] h (fun o g => (¬ okK P n l a ∧ g = h ∧ o = some (sI (-1))) ∨ (okK P n l a ∧ n = 6 ∧ g = h ∧ o = some (sI (-3))) ∨ (okK P n l a ∧ n < 6 ∧ g = setI (setI h 15 n a) 0 9 ((n : Int) + 1) ∧ o = some (sI ((n : Int) + 1)))) := by
  subst eP
  refine zC_of (by decide +kernel) (Nat.le_of_ble_eq_true rfl) (fun X C E => ?_)
  have bad : ¬ okK (h.1 2 8) n l a → zJ X 38 [some (sR 0), some (sI a)] [] h := fun q => zrun_sound t_X8_mark C E [] 60 _ _ _ _ (Or.inl ⟨q, rfl, rfl⟩)
  have good : okK (h.1 2 8) n l a → zJ X 40 [some (sR 0), some (sI a)] [] h := by
    intro q
    refine zrun_sound t_X8_mark C E [] 60 _ _ _ _ ?_
    refine And.intro (by omega) (And.intro (by omega) (And.intro (fun c => ?_) (fun c => ?_)))
    · have k0 : 0 ≤ h.1 0 9 := by omega
      have k1 : h.1 0 9 < 6 := c
      refine And.intro k0 (And.intro k1 ?_)
      refine Or.inr (Or.inr ⟨q, by omega, ?_, ?_⟩)
      · show setI (setI h 15 (h.1 0 9).toNat a) 0 9 (h.1 0 9 + 1) = _
        rw [hn]
        rfl
      · show some (sI (h.1 0 9 + 1)) = _
        rw [hn]
    · exact Or.inr (Or.inl ⟨q, by omega, rfl, rfl⟩)
  refine zrun_sound t_X8_mark C E [38, 40] 60 _ _ _ _ ?_
  refine zcall_i (d' := d - 1) (by omega) (c_X8_isFrom (by omega) h a ha hP) ?_
  rintro _ _ ⟨rfl, rfl⟩
  refine And.intro g_in (And.intro (fun c1 => bad (fun z => g_f c1 z.1)) (fun c1 => ?_))
  have q1 := g_t c1
  refine And.intro (by omega) (And.intro (fun c2 => good ⟨q1, fun z => by omega⟩) (fun c2 => ?_))
  obtain ⟨k, hk⟩ : ∃ k : Nat, n = k + 1 := ⟨n - 1, by omega⟩
  obtain ⟨l1, l2, l3⟩ := hl k hk
  have tn : (h.1 0 9 - 1).toNat = k := by omega
  have k0 : 0 ≤ h.1 0 9 - 1 := by omega
  have k1 : h.1 0 9 - 1 < 6 := by omega
  refine And.intro (by omega) (And.intro (by omega) (And.intro k0 (And.intro k1 ?_)))
  rw [tn, l1]
  refine And.intro ⟨l2, l3⟩ (And.intro (by omega) (And.intro (by omega) (And.intro (by omega) (And.intro (fun c3 => ?_) (fun c3 => ?_)))))
  · exact good ⟨q1, fun z => by omega⟩
  · exact bad (fun z => z.2 ⟨by omega, by omega⟩)
set_option maxHeartbeats 1000000 in
theorem c_X9_mark {d : Nat} (hd : 4 ≤ d) (h : zH) (a P l : Int) (n : Nat) (ha : inR a) (eP : h.1 52 20 = P) (hP : 0 ≤ P ∧ P ≤ 12) (hn : h.1 52 42 = n) (h6 : n ≤ 6) (hl : ∀ k : Nat, n = k + 1 → h.1 75 k = l ∧ 0 ≤ l ∧ l ≤ 2147483647) :
    zC d k_X9_mark [sR 52, sI a] h (fun o g => (¬ okK P n l a ∧ g = h ∧ o = some (sI (-1))) ∨ (okK P n l a ∧ n = 6 ∧ g = h ∧ o = some (sI (-3))) ∨ (okK P n l a ∧ n < 6 ∧ g = setI (setI h 75 n a) 52 42 ((n : Int) + 1) ∧ o = some (sI ((n : Int) + 1)))) := by
  subst eP
  refine zC_of (by decide +kernel) (Nat.le_of_ble_eq_true rfl) (fun X C E => ?_)
  have bad : ¬ okK (h.1 52 20) n l a → zJ X 38 [some (sR 52), some (sI a)] [] h := fun q => zrun_sound t_X9_mark C E [] 60 _ _ _ _ (Or.inl ⟨q, rfl, rfl⟩)
  have good : okK (h.1 52 20) n l a → zJ X 40 [some (sR 52), some (sI a)] [] h := by
    intro q
    refine zrun_sound t_X9_mark C E [] 60 _ _ _ _ ?_
    refine And.intro (by omega) (And.intro (by omega) (And.intro (fun c => ?_) (fun c => ?_)))
    · have k0 : 0 ≤ h.1 52 42 := by omega
      have k1 : h.1 52 42 < 6 := by
        have : ¬ h.1 52 42 = 6 := c
        omega
      refine And.intro k0 (And.intro k1 ?_)
      refine Or.inr (Or.inr ⟨q, by omega, ?_, ?_⟩)
      · show setI (setI h 75 (h.1 52 42).toNat a) 52 42 (h.1 52 42 + 1) = _
        rw [hn]
        rfl
      · show some (sI (h.1 52 42 + 1)) = _
        rw [hn]
    · exact Or.inr (Or.inl ⟨q, by omega, rfl, rfl⟩)
  refine zrun_sound t_X9_mark C E [38, 40] 60 _ _ _ _ ?_
  refine zcall_i (d' := d - 1) (by omega) (c_X9_isFrom (by omega) h a ha hP) ?_
  rintro _ _ ⟨rfl, rfl⟩
  refine And.intro g_in (And.intro (fun c1 => bad (fun z => g_f c1 z.1)) (fun c1 => ?_))
  have q1 := g_t c1
  refine And.intro (by omega) (And.intro (fun c2 => good ⟨q1, fun z => by omega⟩) (fun c2 => ?_))
  obtain ⟨k, hk⟩ : ∃ k : Nat, n = k + 1 := ⟨n - 1, by omega⟩
  obtain ⟨l1, l2, l3⟩ := hl k hk
  have tn : (h.1 52 42 - 1).toNat = k := by omega
  have k0 : 0 ≤ h.1 52 42 - 1 := by omega
  have k1 : h.1 52 42 - 1 < 6 := by omega
  refine And.intro (by omega) (And.intro (by omega) (And.intro k0 (And.intro k1 ?_)))
  rw [tn, l1]
  refine And.intro ⟨l2, l3⟩ (And.intro (by omega) (And.intro (by omega) (And.intro (by omega) (And.intro (fun c3 => ?_) (fun c3 => ?_)))))
  · exact good ⟨q1, fun z => by omega⟩
  · exact bad (fun z => z.2 ⟨by omega, by omega⟩)
theorem pr_mark {d : Nat} (hd : 4 ≤ d) {a : Int} (ha : inR a) : Pair2 d k_X8_mark k_X9_mark [sI a] := fun h hI => by
  have hI2 := hI
  obtain ⟨⟨i1, i2, i3, i4, i5, i6, ⟨m1, m2, m3, m4⟩, i8, i9, i10⟩, i11⟩ := hI
  have hv3 := i1.1.2.2.1
  have x3 := i2.1.2.2.1
  obtain ⟨n, hn⟩ : ∃ n : Nat, h.1 0 9 = n := ⟨(h.1 0 9).toNat, by omega⟩
  have hl : ∀ k : Nat, n = k + 1 → h.1 15 k = h.1 15 (n - 1) ∧ 0 ≤ h.1 15 (n - 1) ∧ h.1 15 (n - 1) ≤ 2147483647 := fun k hk => by
    have := (m3 k (by omega)).2
    rw [show n - 1 = k by omega]
    exact ⟨rfl, by omega, by omega⟩
  have hl2 : ∀ k : Nat, n = k + 1 → h.1 75 k = h.1 15 (n - 1) ∧ 0 ≤ h.1 15 (n - 1) ∧ h.1 15 (n - 1) ≤ 2147483647 := fun k hk => by
    have a1 := (m3 k (by omega)).1
    have a2 := hl k hk
    exact ⟨a1.trans a2.1, a2.2⟩
  refine zC_mono (c_X8_mark hd h a _ _ n ha rfl hv3 hn (by omega) hl) ?_
  rintro o g (⟨q, rfl, rfl⟩ | ⟨q, q2, rfl, rfl⟩ | ⟨q, q2, rfl, rfl⟩)
  · refine ⟨_, rfl, zC_mono (c_X9_mark hd g a _ _ n ha x3 hv3 (m1.trans hn) (by omega) hl2) ?_⟩
    rintro o g' (⟨z, rfl, rfl⟩ | ⟨z, z2, rfl, rfl⟩ | ⟨z, z2, rfl, rfl⟩)
    · exact ⟨rfl, hI2⟩
    · exact absurd z q
    · exact absurd z q
  · refine ⟨_, rfl, zC_mono (c_X9_mark hd g a _ _ n ha x3 hv3 (m1.trans hn) (by omega) hl2) ?_⟩
    rintro o g' (⟨z, rfl, rfl⟩ | ⟨z, z2, rfl, rfl⟩ | ⟨z, z2, rfl, rfl⟩)
    · exact absurd q z
    · exact ⟨rfl, hI2⟩
    · omega
  · refine ⟨_, rfl, zC_mono (c_X9_mark hd (setI (setI h 15 n a) 0 9 ((n : Int) + 1)) a _ _ n ha x3 hv3 (m1.trans hn) (by omega) hl2) ?_⟩
    rintro o g' (⟨z, rfl, rfl⟩ | ⟨z, z2, rfl, rfl⟩ | ⟨z, z2, rfl, rfl⟩)
    · exact absurd q z
    · omega
    · refine ⟨rfl, ⟨i1, i2, i3, i4, i5, i6, ⟨rfl, ⟨?_, ?_⟩, fun i hi => ?_, fun i hi => ?_⟩, i8, ?_, i10⟩, i11⟩
      · show 0 ≤ (n : Int) + 1
        omega
      · show (n : Int) + 1 ≤ 6
        omega
      · replace hi : (i : Int) < (n : Int) + 1 := hi
        show (setI h 75 n a).1 75 i = (setI h 15 n a).1 15 i ∧ (0 ≤ (setI h 15 n a).1 15 i ∧ (setI h 15 n a).1 15 i / 10000 < h.1 2 8 ∧ (setI h 15 n a).1 15 i % 10000 ≤ 1439)
        by_cases e : i = n
        · subst e
          rw [setI_eq, setI_eq]
          exact ⟨rfl, q.1⟩
        · rw [setI_n2 e, setI_n2 e]
          exact m3 i (by omega)
      · replace hi : (i : Int) + 1 < (n : Int) + 1 := hi
        show (setI h 15 n a).1 15 i % 10000 < (setI h 15 n a).1 15 (i + 1) % 10000
        rw [setI_n2 (by omega : i ≠ n)]
        by_cases e : i + 1 = n
        · subst e
          rw [setI_eq]
          have q3 := q.2
          rw [show i + 1 - 1 = i by omega] at q3
          have : ¬ a % 10000 ≤ h.1 15 i % 10000 := fun z => q3 ⟨by omega, z⟩
          omega
        · rw [setI_n2 e]
          exact m4 i (by omega)
      · exact Ishf_c i9 (fun k hk => ⟨by rw [setI_ne (by omega), setI_ne (by omega), setI_ne (by omega), setI_ne (by omega)], rfl⟩) rfl rfl rfl rfl
theorem c_X8_unmark {d : Nat} (h : zH) : zC d k_X8_unmark [sR 0] h (fun o g => g = setI h 0 9 0 ∧ o = some (sI (h.1 0 9))) :=
  zC_of (by decide +kernel) (Nat.le_of_ble_eq_true rfl) (fun X C E => zrun_sound t_X8_unmark C E [] 60 _ _ _ _ (And.intro rfl rfl))
theorem c_X9_unmark {d : Nat} (h : zH) : zC d k_X9_unmark [sR 52] h (fun o g => g = setI h 52 42 0 ∧ o = some (sI (h.1 52 42))) :=
  zC_of (by decide +kernel) (Nat.le_of_ble_eq_true rfl) (fun X C E => zrun_sound t_X9_unmark C E [] 60 _ _ _ _ (And.intro rfl rfl))
theorem pr_unmark {d : Nat} : Pair2 d k_X8_unmark k_X9_unmark [] := fun h hI => by
  refine zC_mono (c_X8_unmark h) ?_
  rintro o g ⟨rfl, rfl⟩
  refine ⟨_, rfl, zC_mono (c_X9_unmark _) ?_⟩
  rintro o g' ⟨rfl, rfl⟩
  obtain ⟨⟨i1, i2, i3, i4, i5, i6, ⟨m1, -⟩, i8, i9, i10⟩, i11⟩ := hI
  refine ⟨by rw [← m1]; rfl, ⟨i1, i2, i3, i4, i5, i6, ⟨rfl, ⟨(by decide : (0 : Int) ≤ 0), (by decide : (0 : Int) ≤ 6)⟩, fun i hi => absurd hi (by show ¬ (i : Int) < 0; omega), fun i hi => absurd hi (by show ¬ (i : Int) + 1 < 0; omega)⟩, i8, ?_, i10⟩, i11⟩
  exact Ishf_c i9 (fun k hk => ⟨by rw [setI_ne (by omega), setI_ne (by omega)], rfl⟩) rfl rfl rfl rfl
theorem c_X8_body {d : Nat} (hd : 4 ≤ d) (h : zH) (a : Int) (n : Nat) (ha : inR a) (hn : h.1 7 1 = n) (h5 : n ≤ 50) :
    zC d k_X8_body [sR 0, sI a] h (fun o g => (¬ (0 ≤ a ∧ a ≤ 6) ∧ g = h ∧ o = some (sI (-1))) ∨ ((0 ≤ a ∧ a ≤ 6) ∧ n = 50 ∧ g = h ∧ o = some (sI (-3))) ∨ ((0 ≤ a ∧ a ≤ 6) ∧ n < 50 ∧ g = setI (setI h 44 n a) 7 1 ((n : Int) + 1) ∧ o = some (sI n))) := by
  have hadd : h.1 7 1 < 50 → zC (d - 1) k_X0_add [sR 7, sI a] h (fun o g => g = setI (setI h 44 n a) 7 1 ((n : Int) + 1) ∧ o = some (sI n)) := by
    intro c
    have k0 : 0 ≤ h.1 7 1 := by omega
    refine zC_of (by decide +kernel) (Nat.le_of_ble_eq_true rfl) (fun X C E => zrun_sound t_X0_add C E [] 60 _ _ _ _ ?_)
    refine And.intro k0 (And.intro c ?_)
    refine And.intro ?_ ?_
    · show setI (setI h 44 (h.1 7 1).toNat a) 7 1 (h.1 7 1 + 1) = _
      rw [hn]
      rfl
    · show some (sI (h.1 7 1 + 1 - 1)) = _
      rw [hn, Int.add_sub_cancel]
  refine zC_of (by decide +kernel) (Nat.le_of_ble_eq_true rfl) (fun X C E => zrun_sound t_X8_body C E [] 60 _ _ _ _ ?_)
  refine zcall_i (d' := d - 1) (by omega) (c_X8_within h a 0 6 ha (by omega) (by omega)) ?_
  rintro _ _ ⟨rfl, rfl⟩
  refine And.intro g_in (And.intro (fun c1 => ?_) (fun c1 => Or.inl ⟨fun z => g_f c1 z, rfl, rfl⟩))
  have q1 := g_t c1
  refine And.intro (by omega) (And.intro (by omega) (And.intro (fun c => ?_) (fun c => ?_)))
  · refine zcall_i (d' := d - 1) (by omega) (hadd c) ?_
    rintro o g ⟨rfl, rfl⟩
    exact Or.inr (Or.inr ⟨q1, by omega, rfl, rfl⟩)
  · exact Or.inr (Or.inl ⟨q1, by omega, rfl, rfl⟩)
theorem c_X9_body {d : Nat} (hd : 4 ≤ d) (h : zH) (a : Int) (n : Nat) (ha : inR a) (hn : h.1 52 44 = n) (h5 : n ≤ 50) :
    zC d k_X9_body [sR 52, sI a] h (fun o g => (¬ (0 ≤ a ∧ a ≤ 6) ∧ g = h ∧ o = some (sI (-1))) ∨ ((0 ≤ a ∧ a ≤ 6) ∧ n = 50 ∧ g = h ∧ o = some (sI (-3))) ∨ ((0 ≤ a ∧ a ≤ 6) ∧ n < 50 ∧ g = setI (setI h 76 n a) 52 44 ((n : Int) + 1) ∧ o = some (sI n))) := by
  refine zC_of (by decide +kernel) (Nat.le_of_ble_eq_true rfl) (fun X C E => zrun_sound t_X9_body C E [] 60 _ _ _ _ ?_)
  refine zcall_i (d' := d - 1) (by omega) (c_X9_within h (i2l a) 0 6 a 0 6 (i2l_toInt ha) (by decide) (by decide)) ?_
  rintro _ _ ⟨rfl, rfl⟩
  refine And.intro g_in (And.intro (fun c1 => ?_) (fun c1 => Or.inl ⟨fun z => g_f c1 z, rfl, rfl⟩))
  have q1 := g_t c1
  refine And.intro (by omega) (And.intro (by omega) (And.intro (fun c => ?_) (fun c => ?_)))
  · have k0 : 0 ≤ h.1 52 44 := by omega
    have k1 : h.1 52 44 < 50 := by
      have : ¬ h.1 52 44 = 50 := c
      omega
    refine And.intro k0 (And.intro k1 ?_)
    refine Or.inr (Or.inr ⟨q1, by omega, ?_, ?_⟩)
    · show setI (setI h 76 (h.1 52 44).toNat a) 52 44 (h.1 52 44 + 1) = _
      rw [hn]
      rfl
    · show some (sI (h.1 52 44 + 1 - 1)) = _
      rw [hn, Int.add_sub_cancel]
  · exact Or.inr (Or.inl ⟨q1, by omega, rfl, rfl⟩)
theorem Ishf_up {h g : zH} (hI : Ishf h) (e : ∀ k, k < 6 → g.1 (8 + k) = h.1 (8 + k) ∧ g.2 (46 + k) = h.2 (46 + k)) (e7 : h.1 7 1 ≤ g.1 7 1) (e78 : g.1 78 = h.1 78) (e79 : g.1 79 = h.1 79) (e80 : g.2 80 = h.2 80) : Ishf g := by
  intro k hk
  rw [(e k hk).1, (e k hk).2, e78, e79, e80]
  rcases hI k hk with a | ⟨a, b, c, f⟩ | a
  · exact Or.inl a
  · exact Or.inr (Or.inl ⟨a, b, c, by omega⟩)
  · exact Or.inr (Or.inr a)
theorem pr_body {d : Nat} (hd : 4 ≤ d) {a : Int} (ha : inR a) : Pair2 d k_X8_body k_X9_body [sI a] := fun h hI => by
  have hI2 := hI
  obtain ⟨⟨i1, i2, i3, i4, i5, i6, i7, ⟨m1, m2, m3, m4, m5, m6⟩, i9, i10⟩, i11⟩ := hI
  obtain ⟨n, hn⟩ : ∃ n : Nat, h.1 7 1 = n := ⟨(h.1 7 1).toNat, by omega⟩
  refine zC_mono (c_X8_body hd h a n ha hn (by omega)) ?_
  rintro o g (⟨q, rfl, rfl⟩ | ⟨q, q2, rfl, rfl⟩ | ⟨q, q2, rfl, rfl⟩)
  · refine ⟨_, rfl, zC_mono (c_X9_body hd g a n ha (m1.trans hn) (by omega)) ?_⟩
    rintro o g' (⟨z, rfl, rfl⟩ | ⟨z, z2, rfl, rfl⟩ | ⟨z, z2, rfl, rfl⟩)
    · exact ⟨rfl, hI2⟩
    · exact absurd z q
    · exact absurd z q
  · refine ⟨_, rfl, zC_mono (c_X9_body hd g a n ha (m1.trans hn) (by omega)) ?_⟩
    rintro o g' (⟨z, rfl, rfl⟩ | ⟨z, z2, rfl, rfl⟩ | ⟨z, z2, rfl, rfl⟩)
    · exact absurd q z
    · exact ⟨rfl, hI2⟩
    · omega
  · refine ⟨_, rfl, zC_mono (c_X9_body hd (setI (setI h 44 n a) 7 1 ((n : Int) + 1)) a n ha (m1.trans hn) (by omega)) ?_⟩
    rintro o g' (⟨z, rfl, rfl⟩ | ⟨z, z2, rfl, rfl⟩ | ⟨z, z2, rfl, rfl⟩)
    · exact absurd q z
    · omega
    · refine ⟨rfl, ⟨i1, i2, i3, i4, i5, i6, i7, ⟨rfl, ⟨?_, ?_⟩, fun i hi => ?_, m4, m5, m6⟩, ?_, i10⟩, i11⟩
      · show 0 ≤ (n : Int) + 1
        omega
      · show (n : Int) + 1 ≤ 50
        omega
      · replace hi : (i : Int) < (n : Int) + 1 := hi
        show (setI h 76 n a).1 76 i = (setI h 44 n a).1 44 i ∧ (0 ≤ (setI h 44 n a).1 44 i ∧ (setI h 44 n a).1 44 i ≤ 6)
        by_cases e : i = n
        · subst e
          rw [setI_eq, setI_eq]
          exact ⟨rfl, q⟩
        · rw [setI_n2 e, setI_n2 e]
          exact m3 i (by omega)
      · exact Ishf_up i9 (fun k hk => ⟨by rw [setI_ne (by omega), setI_ne (by omega), setI_ne (by omega), setI_ne (by omega)], rfl⟩) (by show h.1 7 1 ≤ (n : Int) + 1; omega) rfl rfl rfl
def traceF (h : zH) (a : Int) : Int := if 0 ≤ a ∧ a < h.1 7 3 ∧ a < 24 then h.1 45 a.toNat else -1
theorem c_X8_trace {d : Nat} (hd : 4 ≤ d) (h : zH) (a : Int) (ha : inR a) (hr : 0 ≤ h.1 7 3 ∧ h.1 7 3 ≤ 1000000) : zC d k_X8_trace [sR 0, sI a] h (fun o g => g = h ∧ o = some (sI (traceF h a))) := by
  refine zC_of (by decide +kernel) (Nat.le_of_ble_eq_true rfl) (fun X C E => zrun_sound t_X8_trace C E [] 60 _ _ _ _ ?_)
  have hd1 : 1 ≤ d := by omega
  refine And.intro hd1 (And.intro (by omega) (And.intro (by omega) ?_))
  refine zcall_i (d' := d - 1) (by omega) (c_X8_within h a 0 (min (h.1 7 3) 24 - 1) ha (by omega) (by omega)) ?_
  rintro _ _ ⟨rfl, rfl⟩
  refine And.intro g_in (And.intro (fun c1 => ?_) (fun c1 => ?_))
  · refine And.intro rfl ?_
    have := g_f c1
    unfold traceF
    rw [if_neg (by omega)]
  · have q := g_t c1
    have k0 : 0 ≤ a := by omega
    have k1 : a < 24 := by omega
    refine And.intro k0 (And.intro k1 (And.intro rfl ?_))
    unfold traceF
    rw [if_pos (by omega)]
theorem c_X9_trace {d : Nat} (h : zH) (a r : Int) (ha : inR a) (er : h.1 52 47 = r) (hr : 0 ≤ r ∧ r ≤ 1000000) : zC d k_X9_trace [sR 52, sI a] h (fun o g => g = h ∧ o = some (sI (if 0 ≤ a ∧ a < r ∧ a < 24 then h.1 77 a.toNat else -1))) := by
  subst er
  refine zC_of (by decide +kernel) (Nat.le_of_ble_eq_true rfl) (fun X C E => ?_)
  have bad : ¬ (0 ≤ a ∧ a < h.1 52 47 ∧ a < 24) → zJ X 27 [some (sR 52), some (sI a)] [] h := fun q => zrun_sound t_X9_trace C E [] 60 _ _ _ _ (And.intro rfl (by rw [if_neg q]))
  refine zrun_sound t_X9_trace C E [27] 60 _ _ _ _ ?_
  refine And.intro ha (And.intro (fun c => bad (fun z => by omega)) (fun c => ?_))
  refine And.intro ha (And.intro (by omega) (And.intro (fun c2 => ?_) (fun c2 => ?_)))
  · replace c2 : h.1 52 47 ≤ a := c2
    exact bad (fun z => by omega)
  · replace c2 : ¬ h.1 52 47 ≤ a := c2
    refine And.intro ha (And.intro (by omega) (And.intro (fun c3 => bad (fun z => by omega)) (fun c3 => ?_)))
    have k0 : 0 ≤ a := by omega
    have k1 : a < 24 := by omega
    exact And.intro k0 (And.intro k1 (And.intro rfl (by rw [if_pos (by omega)])))
theorem pr_trace {d : Nat} (hd : 4 ≤ d) {a : Int} (ha : inR a) : Pair2 d k_X8_trace k_X9_trace [sI a] := fun h hI => by
  obtain ⟨m1, m2, m3, m4, m5, m6⟩ := id hI.1.2.2.2.2.2.2.2.1
  refine zC_mono (c_X8_trace hd h a ha m5) ?_
  rintro o g ⟨rfl, rfl⟩
  refine ⟨_, rfl, zC_mono (c_X9_trace g a _ ha m4 m5) ?_⟩
  rintro o g' ⟨rfl, rfl⟩
  refine ⟨?_, hI⟩
  unfold traceF
  by_cases q : 0 ≤ a ∧ a < g'.1 7 3 ∧ a < 24
  · rw [if_pos q, if_pos q, (m6 a.toNat (by omega) (by omega)).1]
  · rw [if_neg q, if_neg q]
/-! ===== shelves: keep, row ===== -/
def shB : Nat → Bool := fun c => (Nat.ble 8 c && Nat.ble c 13) || c == 78 || c == 79 || (Nat.ble 46 c && Nat.ble c 51)
theorem Inv_shf {h g : zH} (hI : Inv2 h) (e : ∀ c, shB c = false → g.1 c = h.1 c) (hs : Ishf g) : Inv2 g := by
  obtain ⟨⟨i1, i2, i3, i4, i5, i6, i7, i8, -, i10⟩, i11⟩ := hI
  refine ⟨⟨?_, ?_, ?_, ?_, ?_, ?_, ?_, ?_, hs, ?_⟩, ?_⟩
  · unfold VV Vn Vt Vw Vp Vy Vh Vs at *
    rw [e 2 rfl, e 19 rfl, e 20 rfl, e 21 rfl, e 22 rfl, e 23 rfl, e 24 rfl, e 25 rfl, e 26 rfl, e 27 rfl, e 28 rfl, e 29 rfl, e 30 rfl, e 31 rfl, e 32 rfl]
    exact i1
  · unfold Ieq at *
    rw [e 2 rfl, e 19 rfl, e 20 rfl, e 21 rfl, e 22 rfl, e 23 rfl, e 24 rfl, e 25 rfl, e 26 rfl, e 27 rfl, e 28 rfl, e 29 rfl, e 30 rfl, e 31 rfl, e 32 rfl, e 52 rfl, e 53 rfl, e 58 rfl, e 59 rfl, e 60 rfl, e 63 rfl, e 64 rfl, e 65 rfl, e 66 rfl, e 67 rfl, e 68 rfl]
    exact i2
  · exact Isea_c i3 (fun c a b => by
      rcases (by omega : c = 19 ∨ c = 20 ∨ c = 21 ∨ c = 22 ∨ c = 23) with rfl | rfl | rfl | rfl | rfl
      · exact e 19 rfl
      · exact e 20 rfl
      · exact e 21 rfl
      · exact e 22 rfl
      · exact e 23 rfl) (e 2 rfl) ⟨by rw [e 3 rfl], by rw [e 3 rfl]⟩ (e 33 rfl) (e 34 rfl)
  · unfold Itape at *
    rw [e 1 rfl, e 16 rfl, e 57 rfl, e 52 rfl]
    exact i4
  · unfold Iplan at *
    rw [e 2 rfl, e 5 rfl, e 39 rfl, e 74 rfl, e 52 rfl]
    exact i5
  · unfold Ichg at *
    rw [e 6 rfl, e 40 rfl, e 41 rfl, e 42 rfl, e 43 rfl, e 54 rfl, e 55 rfl, e 56 rfl, e 52 rfl]
    exact i6
  · unfold Imark at *
    rw [e 0 rfl, e 2 rfl, e 15 rfl, e 75 rfl, e 52 rfl]
    exact i7
  · unfold Ibod at *
    rw [e 7 rfl, e 44 rfl, e 45 rfl, e 76 rfl, e 77 rfl, e 52 rfl]
    exact i8
  · unfold Imisc at *
    rw [e 52 rfl]
    exact i10
  · rw [e 52 rfl]
    exact i11
theorem shB_no {c k : Nat} (hk : k < 6) (hc : shB c = false) : c ≠ 8 + k ∧ c ≠ 78 ∧ c ≠ 79 ∧ c ≠ 46 + k := by
  refine ⟨fun q => ?_, fun q => ?_, fun q => ?_, fun q => ?_⟩
  · subst q
    rcases (by omega : k = 0 ∨ k = 1 ∨ k = 2 ∨ k = 3 ∨ k = 4 ∨ k = 5) with rfl | rfl | rfl | rfl | rfl | rfl <;> cases hc
  · subst q
    cases hc
  · subst q
    cases hc
  · subst q
    rcases (by omega : k = 0 ∨ k = 1 ∨ k = 2 ∨ k = 3 ∨ k = 4 ∨ k = 5) with rfl | rfl | rfl | rfl | rfl | rfl <;> cases hc
def kpC (h : zH) (k : Nat) (b : Int) : zH := setI (setI h (8 + k) 0 (if 0 ≤ b then 5 else -1)) (8 + k) 1 (max 0 b)
def kpM (h : zH) (k : Nat) (b : Int) : zH := setI (setI h 78 k b) 79 k 0
theorem c_X6_holdBody {d : Nat} (hd : 1 ≤ d) (h : zH) (k : Nat) (b : Int) (hk : k < 6) (hb : inR b) : zC d k_X6_holdBody [sR (8 + k), sI b] h (fun o g => o = none ∧ g = kpC h k b) := by
  refine zC_of (by decide +kernel) (Nat.le_of_ble_eq_true rfl) (fun X C E => zrun_sound t_X6_holdBody C E [] 60 _ _ _ _ ?_)
  unfold kpC
  rcases (by omega : k = 0 ∨ k = 1 ∨ k = 2 ∨ k = 3 ∨ k = 4 ∨ k = 5) with rfl | rfl | rfl | rfl | rfl | rfl
  all_goals
    refine And.intro hb (And.intro (fun c => ?_) (fun c => ?_))
    · refine And.intro hd (And.intro (by decide) (And.intro hb ?_))
      exact And.intro rfl (by rw [if_pos c])
    · refine And.intro hd (And.intro (by decide) (And.intro hb ?_))
      exact And.intro rfl (by rw [if_neg c])
theorem c_X8_keep {d : Nat} (hd : 4 ≤ d) (h : zH) (a b : Int) (ha : inR a) (hb : inR b) (hn : 0 ≤ h.1 7 1 ∧ h.1 7 1 ≤ 50) :
    zC d k_X8_keep [sR 0, sI a, sI b] h (fun o g => (¬ ((0 ≤ a ∧ a ≤ 5) ∧ -1 ≤ b ∧ b < h.1 7 1) ∧ g = h ∧ o = some (sI (-1))) ∨ (((0 ≤ a ∧ a ≤ 5) ∧ -1 ≤ b ∧ b < h.1 7 1) ∧ g = kpC h a.toNat b ∧ o = some (sI 1))) := by
  refine zC_of (by decide +kernel) (Nat.le_of_ble_eq_true rfl) (fun X C E => zrun_sound t_X8_keep C E [] 60 _ _ _ _ ?_)
  refine zcall_i (d' := d - 1) (by omega) (c_X8_isShelf (by omega) h a ha) ?_
  rintro _ _ ⟨rfl, rfl⟩
  refine And.intro g_in (And.intro (fun c1 => Or.inl ⟨fun z => g_f c1 z.1, rfl, rfl⟩) (fun c1 => ?_))
  refine zcall_i (d' := d - 1) (by omega) (c_X8_within h b (-1) (h.1 7 1 - 1) hb (by omega) (by omega)) ?_
  rintro _ _ ⟨rfl, rfl⟩
  refine And.intro g_in (And.intro (fun c2 => ?_) (fun c2 => Or.inl ⟨fun z => g_f c2 (by omega), rfl, rfl⟩))
  have q1 := g_t c1
  have q2 := g_t c2
  have hd1 : 1 ≤ d - 1 := by omega
  have hd2 : d - 1 + 1 ≤ d := by omega
  refine And.intro q1.1 (And.intro (show a < 6 by omega) ?_)
  clear c1 c2
  rcases (by omega : a = 0 ∨ a = 1 ∨ a = 2 ∨ a = 3 ∨ a = 4 ∨ a = 5) with rfl | rfl | rfl | rfl | rfl | rfl
  · refine zcall_i (d' := d - 1) hd2 (c_X6_holdBody hd1 h 0 b (by omega) hb) ?_
    rintro _ _ ⟨rfl, rfl⟩
    exact Or.inr ⟨⟨q1, by omega⟩, rfl, rfl⟩
  · refine zcall_i (d' := d - 1) hd2 (c_X6_holdBody hd1 h 1 b (by omega) hb) ?_
    rintro _ _ ⟨rfl, rfl⟩
    exact Or.inr ⟨⟨q1, by omega⟩, rfl, rfl⟩
  · refine zcall_i (d' := d - 1) hd2 (c_X6_holdBody hd1 h 2 b (by omega) hb) ?_
    rintro _ _ ⟨rfl, rfl⟩
    exact Or.inr ⟨⟨q1, by omega⟩, rfl, rfl⟩
  · refine zcall_i (d' := d - 1) hd2 (c_X6_holdBody hd1 h 3 b (by omega) hb) ?_
    rintro _ _ ⟨rfl, rfl⟩
    exact Or.inr ⟨⟨q1, by omega⟩, rfl, rfl⟩
  · refine zcall_i (d' := d - 1) hd2 (c_X6_holdBody hd1 h 4 b (by omega) hb) ?_
    rintro _ _ ⟨rfl, rfl⟩
    exact Or.inr ⟨⟨q1, by omega⟩, rfl, rfl⟩
  · refine zcall_i (d' := d - 1) hd2 (c_X6_holdBody hd1 h 5 b (by omega) hb) ?_
    rintro _ _ ⟨rfl, rfl⟩
    exact Or.inr ⟨⟨q1, by omega⟩, rfl, rfl⟩
theorem c_X9_keep {d : Nat} (hd : 4 ≤ d) (h : zH) (a b n : Int) (ha : inR a) (hb : inR b) (en : h.1 52 44 = n) (hn : 0 ≤ n ∧ n ≤ 50) :
    zC d k_X9_keep [sR 52, sI a, sI b] h (fun o g => (¬ ((0 ≤ a ∧ a ≤ 5) ∧ -1 ≤ b ∧ b < n) ∧ g = h ∧ o = some (sI (-1))) ∨ (((0 ≤ a ∧ a ≤ 5) ∧ -1 ≤ b ∧ b < n) ∧ g = kpM h a.toNat b ∧ o = some (sI 1))) := by
  subst en
  refine zC_of (by decide +kernel) (Nat.le_of_ble_eq_true rfl) (fun X C E => ?_)
  have good : ((0 ≤ a ∧ a ≤ 5) ∧ -1 ≤ b ∧ b < h.1 52 44) → zJ X 22 [some (sR 52), some (sI a), some (sI b)] [] h := by
    intro q
    have k0 := q.1.1
    have k1 : a < 6 := by omega
    refine zrun_sound t_X9_keep C E [] 60 _ _ _ _ ?_
    exact And.intro k0 (And.intro k1 (And.intro k0 (And.intro k1 (Or.inr ⟨q, rfl, rfl⟩))))
  refine zrun_sound t_X9_keep C E [22] 60 _ _ _ _ ?_
  refine zcall_i (d' := d - 1) (by omega) (c_X9_isShelf (by omega) h a ha) ?_
  rintro _ _ ⟨rfl, rfl⟩
  refine And.intro g_in (And.intro (fun c1 => Or.inl ⟨fun z => g_f c1 z.1, rfl, rfl⟩) (fun c1 => ?_))
  have q1 := g_t c1
  refine And.intro hb (And.intro (by omega) (And.intro (fun c2 => good ⟨q1, by omega⟩) (fun c2 => ?_)))
  refine zcall_i (d' := d - 1) (by omega) (c_X9_isBody (by omega) h b hb hn) ?_
  rintro _ _ ⟨rfl, rfl⟩
  refine And.intro g_in (And.intro (fun c3 => ?_) (fun c3 => Or.inl ⟨fun z => g_f c3 (by omega), rfl, rfl⟩))
  have q3 := g_t c3
  exact good ⟨q1, by omega⟩
theorem pr_keep {d : Nat} (hd : 4 ≤ d) {a b : Int} (ha : inR a) (hb : inR b) : Pair2 d k_X8_keep k_X9_keep [sI a, sI b] := fun h hI => by
  obtain ⟨m1, m2, -⟩ := id hI.1.2.2.2.2.2.2.2.1
  have i9 := hI.1.2.2.2.2.2.2.2.2.1
  refine zC_mono (c_X8_keep hd h a b ha hb m2) ?_
  rintro o g (⟨q, rfl, rfl⟩ | ⟨q, rfl, rfl⟩)
  · refine ⟨_, rfl, zC_mono (c_X9_keep hd g a b _ ha hb m1 m2) ?_⟩
    rintro o g' (⟨z, rfl, rfl⟩ | ⟨z, -⟩)
    · exact ⟨rfl, hI⟩
    · exact absurd z q
  · have k6 : a.toNat < 6 := by omega
    have e44 : (kpC h a.toNat b).1 52 44 = h.1 7 1 := by
      unfold kpC
      rw [setI_ne (by omega), setI_ne (by omega)]
      exact m1
    refine ⟨_, rfl, zC_mono (c_X9_keep hd _ a b _ ha hb e44 m2) ?_⟩
    rintro o g' (⟨z, -, -⟩ | ⟨z, rfl, rfl⟩)
    · exact absurd q z
    · refine ⟨rfl, Inv_shf hI (fun c hc => ?_) (fun k hk => ?_)⟩
      · obtain ⟨n1, n2, n3, -⟩ := shB_no k6 hc
        unfold kpM kpC
        rw [setI_ne n3, setI_ne n2, setI_ne n1, setI_ne n1]
      · have e7 : (kpM (kpC h a.toNat b) a.toNat b).1 7 = h.1 7 := by
          unfold kpM kpC
          rw [setI_ne (by omega), setI_ne (by omega), setI_ne (by omega), setI_ne (by omega)]
        have e2 : (kpM (kpC h a.toNat b) a.toNat b).2 = h.2 := rfl
        have e78 : (kpM (kpC h a.toNat b) a.toNat b).1 78 k = if k = a.toNat then b else h.1 78 k := by
          unfold kpM kpC
          rw [setI_ne (by omega), setI_at, setI_ne (by omega), setI_ne (by omega)]
          by_cases e : k = a.toNat
          · rw [if_pos ⟨rfl, e⟩, if_pos e]
          · rw [if_neg (fun z => e z.2), if_neg e]
        have e79 : k ≠ a.toNat → (kpM (kpC h a.toNat b) a.toNat b).1 79 k = h.1 79 k := fun e => by
          unfold kpM kpC
          rw [setI_n2 e, setI_ne (by omega), setI_ne (by omega), setI_ne (by omega)]
        by_cases e : k = a.toNat
        · have f0 : (kpM (kpC h a.toNat b) a.toNat b).1 (8 + k) 0 = if 0 ≤ b then 5 else -1 := by
            unfold kpM kpC
            rw [e, setI_ne (by omega), setI_ne (by omega), setI_n2 (by omega), setI_eq]
          have f1 : (kpM (kpC h a.toNat b) a.toNat b).1 (8 + k) 1 = max 0 b := by
            unfold kpM kpC
            rw [e, setI_ne (by omega), setI_ne (by omega), setI_eq]
          rw [f0, f1, e78, if_pos e, e7]
          by_cases c : 0 ≤ b
          · rw [if_pos c]
            exact Or.inr (Or.inl ⟨rfl, by omega, by omega, by omega⟩)
          · rw [if_neg c]
            exact Or.inl ⟨rfl, by omega⟩
        · have f0 : (kpM (kpC h a.toNat b) a.toNat b).1 (8 + k) = h.1 (8 + k) := by
            unfold kpM kpC
            rw [setI_ne (by omega), setI_ne (by omega), setI_ne (by omega), setI_ne (by omega)]
          rw [f0, e7, e78, if_neg e, e79 e, e2]
          exact i9 k hk
def rwC (h g : zH) (k : Nat) (b n : Int) : Prop := (∀ c i, c ≠ 46 + k → ¬ (c = 8 + k ∧ (i = 0 ∨ i = 3)) → g.1 c i = h.1 c i) ∧ g.1 (8 + k) 0 = b ∧ g.1 (8 + k) 3 = n ∧ (∀ c, c ≠ 46 + k → g.2 c = h.2 c) ∧ ∀ i, i < 60 → g.2 (46 + k) i = 0
theorem rwC_fill {h g : zH} {k : Nat} {b n : Int} (hf : fr (fun c _ => c == 46 + k) (setI (setI h (8 + k) 0 b) (8 + k) 3 n) g) (h0 : ∀ i, i < 60 → g.2 (46 + k) i = 0) (hk : k < 6) : rwC h g k b n := by
  have e1 : ∀ c, c ≠ 46 + k → ∀ i, g.1 c i = (setI (setI h (8 + k) 0 b) (8 + k) 3 n).1 c i := fun c q i => (hf c i (by simpa using q)).1
  refine ⟨fun c i hc hi => ?_, ?_, ?_, fun c hc => funext fun i => (hf c i (by simpa using hc)).2, h0⟩
  · rw [e1 c hc i, setI_at, if_neg (fun z => hi ⟨z.1, Or.inr z.2⟩), setI_at, if_neg (fun z => hi ⟨z.1, Or.inl z.2⟩)]
  · rw [e1 _ (by omega), setI_n2 (by omega), setI_eq]
  · rw [e1 _ (by omega), setI_eq]
theorem c_X6_holdRow {d : Nat} (hd : 1 ≤ d) (h : zH) (k : Nat) (b n : Int) (hk : k < 6) : zC d k_X6_holdRow [sR (8 + k), sI b, sI n] h (fun o g => o = none ∧ rwC h g k b n) := by
  have hd2 : d - 1 + 1 ≤ d := by omega
  refine zC_of (by decide +kernel) (Nat.le_of_ble_eq_true rfl) (fun X C E => zrun_sound t_X6_holdRow C E [] 60 _ _ _ _ ?_)
  rcases (by omega : k = 0 ∨ k = 1 ∨ k = 2 ∨ k = 3 ∨ k = 4 ∨ k = 5) with rfl | rfl | rfl | rfl | rfl | rfl
  · refine zcall_i (d' := d - 1) hd2 (c_fillL_46 _ 0) ?_
    rintro _ g ⟨rfl, hf, h0⟩
    exact And.intro rfl (rwC_fill (k := 0) hf h0 hk)
  · refine zcall_i (d' := d - 1) hd2 (c_fillL_47 _ 0) ?_
    rintro _ g ⟨rfl, hf, h0⟩
    exact And.intro rfl (rwC_fill (k := 1) hf h0 hk)
  · refine zcall_i (d' := d - 1) hd2 (c_fillL_48 _ 0) ?_
    rintro _ g ⟨rfl, hf, h0⟩
    exact And.intro rfl (rwC_fill (k := 2) hf h0 hk)
  · refine zcall_i (d' := d - 1) hd2 (c_fillL_49 _ 0) ?_
    rintro _ g ⟨rfl, hf, h0⟩
    exact And.intro rfl (rwC_fill (k := 3) hf h0 hk)
  · refine zcall_i (d' := d - 1) hd2 (c_fillL_50 _ 0) ?_
    rintro _ g ⟨rfl, hf, h0⟩
    exact And.intro rfl (rwC_fill (k := 4) hf h0 hk)
  · refine zcall_i (d' := d - 1) hd2 (c_fillL_51 _ 0) ?_
    rintro _ g ⟨rfl, hf, h0⟩
    exact And.intro rfl (rwC_fill (k := 5) hf h0 hk)
def okR (a b n : Int) : Prop := (0 ≤ a ∧ a ≤ 5) ∧ (0 ≤ b ∧ b ≤ 4) ∧ n ≤ 60
theorem c_X8_row {d : Nat} (hd : 4 ≤ d) (h : zH) (a b n : Int) (ha : inR a) (hb : inR b) (hn : inR n) :
    zC d k_X8_row [sR 0, sI a, sI b, sI n] h (fun o g => (¬ okR a b n ∧ g = h ∧ o = some (sI (-1))) ∨ (okR a b n ∧ n < 0 ∧ g = h ∧ o = some (sI (-14))) ∨ (okR a b n ∧ 0 ≤ n ∧ rwC h g a.toNat b n ∧ o = some (sI 1))) := by
  refine zC_of (by decide +kernel) (Nat.le_of_ble_eq_true rfl) (fun X C E => zrun_sound t_X8_row C E [] 60 _ _ _ _ ?_)
  refine zcall_i (d' := d - 1) (by omega) (c_X8_isShelf (by omega) h a ha) ?_
  rintro _ _ ⟨rfl, rfl⟩
  refine And.intro g_in (And.intro (fun c1 => Or.inl ⟨fun z => g_f c1 z.1, rfl, rfl⟩) (fun c1 => ?_))
  refine zcall_i (d' := d - 1) (by omega) (c_X8_within h b 0 4 hb (by omega) (by omega)) ?_
  rintro _ _ ⟨rfl, rfl⟩
  refine And.intro g_in (And.intro (fun c2 => Or.inl ⟨fun z => g_f c2 z.2.1, rfl, rfl⟩) (fun c2 => ?_))
  have q1 := g_t c1
  have q2 := g_t c2
  refine And.intro hn (And.intro (by omega) (And.intro (fun c3 => ?_) (fun c3 => Or.inl ⟨fun z => c3 z.2.2, rfl, rfl⟩)))
  refine And.intro hn (And.intro (fun c4 => ?_) (fun c4 => Or.inr (Or.inl ⟨⟨q1, q2, c3⟩, by omega, rfl, rfl⟩)))
  have hd1 : 1 ≤ d - 1 := by omega
  have hd2 : d - 1 + 1 ≤ d := by omega
  refine And.intro q1.1 (And.intro (show a < 6 by omega) ?_)
  clear c1 c2
  rcases (by omega : a = 0 ∨ a = 1 ∨ a = 2 ∨ a = 3 ∨ a = 4 ∨ a = 5) with rfl | rfl | rfl | rfl | rfl | rfl
  · refine zcall_i (d' := d - 1) hd2 (c_X6_holdRow hd1 h 0 b n (by omega)) ?_
    rintro _ g ⟨rfl, hr⟩
    exact Or.inr (Or.inr ⟨⟨q1, q2, c3⟩, c4, hr, rfl⟩)
  · refine zcall_i (d' := d - 1) hd2 (c_X6_holdRow hd1 h 1 b n (by omega)) ?_
    rintro _ g ⟨rfl, hr⟩
    exact Or.inr (Or.inr ⟨⟨q1, q2, c3⟩, c4, hr, rfl⟩)
  · refine zcall_i (d' := d - 1) hd2 (c_X6_holdRow hd1 h 2 b n (by omega)) ?_
    rintro _ g ⟨rfl, hr⟩
    exact Or.inr (Or.inr ⟨⟨q1, q2, c3⟩, c4, hr, rfl⟩)
  · refine zcall_i (d' := d - 1) hd2 (c_X6_holdRow hd1 h 3 b n (by omega)) ?_
    rintro _ g ⟨rfl, hr⟩
    exact Or.inr (Or.inr ⟨⟨q1, q2, c3⟩, c4, hr, rfl⟩)
  · refine zcall_i (d' := d - 1) hd2 (c_X6_holdRow hd1 h 4 b n (by omega)) ?_
    rintro _ g ⟨rfl, hr⟩
    exact Or.inr (Or.inr ⟨⟨q1, q2, c3⟩, c4, hr, rfl⟩)
  · refine zcall_i (d' := d - 1) hd2 (c_X6_holdRow hd1 h 5 b n (by omega)) ?_
    rintro _ g ⟨rfl, hr⟩
    exact Or.inr (Or.inr ⟨⟨q1, q2, c3⟩, c4, hr, rfl⟩)
def rwM (h g : zH) (k : Nat) (b n : Int) (j : Nat) : Prop := g.1 = (setI (setI h 78 k (50 + b)) 79 k n).1 ∧ (∀ c, c ≠ 80 → g.2 c = h.2 c) ∧ ∀ i, g.2 80 i = if 60 * k ≤ i ∧ i < j then 0 else h.2 80 i
theorem rwM_s {h g : zH} {k j : Nat} {b n : Int} (hr : rwM h g k b n j) (hj : 60 * k ≤ j) : rwM h (setL g 80 j 0) k b n (j + 1) := by
  obtain ⟨a, b, c⟩ := hr
  refine ⟨a, fun c' hc => funext fun i => ?_, fun i => ?_⟩
  · rw [setL_at, if_neg (fun z => hc z.1), b c' hc]
  · rw [setL_at]
    by_cases q : i = j
    · rw [if_pos ⟨rfl, q⟩, if_pos (by omega)]
    · rw [if_neg (fun z => q z.2), c i]
      by_cases q2 : 60 * k ≤ i ∧ i < j
      · rw [if_pos q2, if_pos (by omega)]
      · rw [if_neg q2, if_neg (by omega)]
theorem c_X9_row {d : Nat} (hd : 4 ≤ d) (h : zH) (a b n : Int) (ha : inR a) (hb : inR b) (hn : inR n) :
    zC d k_X9_row [sR 52, sI a, sI b, sI n] h (fun o g => (¬ okR a b n ∧ g = h ∧ o = some (sI (-1))) ∨ (okR a b n ∧ n < 0 ∧ g = h ∧ o = some (sI (-14))) ∨ (okR a b n ∧ 0 ≤ n ∧ rwM h g a.toNat b n (60 * a.toNat + 60) ∧ o = some (sI 1))) := by
  refine zC_of (by decide +kernel) (Nat.le_of_ble_eq_true rfl) (fun X C E => ?_)
  have loop : okR a b n → 0 ≤ n → ∀ (f j : Nat) (H : zH), j + f = 60 * a.toNat + 60 → 60 * a.toNat ≤ j → rwM h H a.toNat b n j → zJ X 57 [some (sR 52), some (sI a), some (sI b), some (sI n), some (sI j)] [] H := by
    intro q hn0 f
    have q1 := q.1
    induction f with
    | zero =>
      intro j H hj hj2 hr
      refine zrun_sound t_X9_row C E [] 60 _ _ _ _ ?_
      refine And.intro (by omega) (And.intro (by omega) (And.intro (fun c => ?_) (fun c => absurd (by omega) c)))
      refine Or.inr (Or.inr ⟨q, hn0, ?_, rfl⟩)
      have : j = 60 * a.toNat + 60 := by omega
      subst this
      exact hr
    | succ f ih =>
      intro j H hj hj2 hr
      refine zrun_sound t_X9_row C E [57] 60 _ _ _ _ ?_
      refine And.intro (by omega) (And.intro (by omega) (And.intro (fun c => absurd c (by omega)) (fun c => ?_)))
      refine And.intro (by omega) (And.intro (by omega) ?_)
      exact zJ_le (ih (j + 1) _ (by omega) (by omega) (rwM_s hr hj2)) (And.intro rfl (And.intro rfl (And.intro rfl (And.intro rfl (And.intro rfl trivial))))) rfl rfl
  refine zrun_sound t_X9_row C E [57] 60 _ _ _ _ ?_
  refine zcall_i (d' := d - 1) (by omega) (c_X9_isShelf (by omega) h a ha) ?_
  rintro _ _ ⟨rfl, rfl⟩
  refine And.intro g_in (And.intro (fun c1 => Or.inl ⟨fun z => g_f c1 z.1, rfl, rfl⟩) (fun c1 => ?_))
  refine zcall_i (d' := d - 1) (by omega) (c_X9_within h (i2l b) 0 4 b 0 4 (i2l_toInt hb) (by decide) (by decide)) ?_
  rintro _ _ ⟨rfl, rfl⟩
  refine And.intro g_in (And.intro (fun c2 => Or.inl ⟨fun z => g_f c2 z.2.1, rfl, rfl⟩) (fun c2 => ?_))
  have q1 := g_t c1
  have q2 := g_t c2
  refine And.intro hn (And.intro (by omega) (And.intro (fun c3 => ?_) (fun c3 => Or.inl ⟨fun z => c3 z.2.2, rfl, rfl⟩)))
  refine And.intro hn (And.intro (fun c4 => ?_) (fun c4 => Or.inr (Or.inl ⟨⟨q1, q2, c3⟩, by omega, rfl, rfl⟩)))
  have k0 := q1.1
  have k1 : a < 6 := by omega
  refine And.intro k0 (And.intro k1 (And.intro k0 (And.intro k1 ?_)))
  refine zJ_le (loop ⟨q1, q2, c3⟩ c4 60 (60 * a.toNat) _ (by omega) (by omega) ⟨rfl, fun c _ => rfl, fun i => by rw [if_neg (by omega)]; rfl⟩) (And.intro rfl (And.intro rfl (And.intro rfl (And.intro rfl (And.intro (congrArg sI (by omega)) trivial))))) rfl rfl
theorem pr_row {d : Nat} (hd : 4 ≤ d) {a b n : Int} (ha : inR a) (hb : inR b) (hn : inR n) : Pair2 d k_X8_row k_X9_row [sI a, sI b, sI n] := fun h hI => by
  have i9 := hI.1.2.2.2.2.2.2.2.2.1
  refine zC_mono (c_X8_row hd h a b n ha hb hn) ?_
  rintro o g (⟨q, rfl, rfl⟩ | ⟨q, q2, rfl, rfl⟩ | ⟨q, q2, hr, rfl⟩)
  · refine ⟨_, rfl, zC_mono (c_X9_row hd g a b n ha hb hn) ?_⟩
    rintro o g' (⟨z, rfl, rfl⟩ | ⟨z, z2, rfl, rfl⟩ | ⟨z, z2, zr, rfl⟩)
    · exact ⟨rfl, hI⟩
    · exact absurd z q
    · exact absurd z q
  · refine ⟨_, rfl, zC_mono (c_X9_row hd g a b n ha hb hn) ?_⟩
    rintro o g' (⟨z, rfl, rfl⟩ | ⟨z, z2, rfl, rfl⟩ | ⟨z, z2, zr, rfl⟩)
    · exact absurd q z
    · exact ⟨rfl, hI⟩
    · omega
  · refine ⟨_, rfl, zC_mono (c_X9_row hd g a b n ha hb hn) ?_⟩
    rintro o g' (⟨z, -, -⟩ | ⟨z, z2, -, -⟩ | ⟨z, z2, zr, rfl⟩)
    · exact absurd q z
    · omega
    · obtain ⟨⟨qa, qa2⟩, qb, qn⟩ := q
      have k6 : a.toNat < 6 := by omega
      obtain ⟨r1, r2, r3, r4, r5⟩ := hr
      obtain ⟨s1, s2, s3⟩ := zr
      have gc : ∀ c, c ≠ 78 → c ≠ 79 → g'.1 c = g.1 c := fun c n1 n2 => by rw [s1, setI_ne n2, setI_ne n1]
      refine ⟨rfl, Inv_shf hI (fun c hc => ?_) (fun k hk => ?_)⟩
      · obtain ⟨n1, n2, n3, n4⟩ := shB_no k6 hc
        rw [gc c n2 n3]
        exact funext fun i => r1 c i n4 (fun z => n1 z.1)
      · have e7 : g'.1 7 1 = h.1 7 1 := by rw [gc 7 (by omega) (by omega), r1 7 1 (by omega) (by omega)]
        have e78 : g'.1 78 k = if k = a.toNat then 50 + b else h.1 78 k := by
          rw [s1, setI_ne (by omega), setI_at]
          by_cases e : k = a.toNat
          · rw [if_pos ⟨rfl, e⟩, if_pos e]
          · rw [if_neg (fun z => e z.2), if_neg e, r1 78 k (by omega) (by omega)]
        have e79 : g'.1 79 k = if k = a.toNat then n else h.1 79 k := by
          rw [s1, setI_at]
          by_cases e : k = a.toNat
          · rw [if_pos ⟨rfl, e⟩, if_pos e]
          · rw [if_neg (fun z => e z.2), if_neg e, setI_ne (by omega), r1 79 k (by omega) (by omega)]
        have eL : g'.2 (46 + k) = g.2 (46 + k) := s2 _ (by omega)
        by_cases e : k = a.toNat
        · rw [e78, e79, if_pos e, if_pos e, gc _ (by omega) (by omega), e, r2, r3]
          refine Or.inr (Or.inr ⟨qb, rfl, rfl, ⟨q2, qn⟩, fun i hi => ?_⟩)
          rw [s3, if_pos (by omega), ← e, eL, e, r5 i hi]
        · have f8 : g'.1 (8 + k) = h.1 (8 + k) := by
            rw [gc _ (by omega) (by omega)]
            exact funext fun i => r1 _ i (by omega) (by omega)
          rw [f8, e7, e78, e79, if_neg e, if_neg e, eL, r4 _ (by omega)]
          rcases i9 k hk with y | y | ⟨y1, y2, y3, y4, y5⟩
          · exact Or.inl y
          · exact Or.inr (Or.inl y)
          · refine Or.inr (Or.inr ⟨y1, y2, y3, y4, fun i hi => ?_⟩)
            rw [s3, if_neg (by omega), r4 80 (by omega)]
            exact y5 i hi
/-! ===== shelves: put, element, taken ===== -/
def refK (h : zH) (k : Nat) (b : Int) : Int := if h.1 (8 + k) 0 = -1 then -11 else if h.1 (8 + k) 0 = 5 then -12 else if 0 ≤ b ∧ b < h.1 (8 + k) 3 then 0 else -13
def refF (h : zH) (a b : Int) : Int := if 0 ≤ a ∧ a ≤ 5 then refK h a.toNat b else -1
def Ishf0 (h : zH) : Prop := ∀ k : Nat, k < 6 → (h.1 (8 + k) 0 = -1 ∧ h.1 78 k = -1) ∨ (h.1 (8 + k) 0 = 5 ∧ 0 ≤ h.1 78 k ∧ h.1 78 k < 50) ∨ ((0 ≤ h.1 (8 + k) 0 ∧ h.1 (8 + k) 0 ≤ 4) ∧ h.1 78 k = 50 + h.1 (8 + k) 0 ∧ h.1 79 k = h.1 (8 + k) 3 ∧ (0 ≤ h.1 (8 + k) 3 ∧ h.1 (8 + k) 3 ≤ 60))
theorem Ishf0_of {h : zH} (hI : Ishf h) (hn : h.1 7 1 ≤ 50) : Ishf0 h := fun k hk => by
  rcases hI k hk with a | ⟨a, b, c, e⟩ | ⟨a, b, c, e, -⟩
  · exact Or.inl a
  · exact Or.inr (Or.inl ⟨a, by omega, by omega⟩)
  · exact Or.inr (Or.inr ⟨a, b, c, e⟩)
theorem Ishf_R {h : zH} (hI : Ishf0 h) (k : Nat) (hk : k < 6) : inR (h.1 (8 + k) 0) ∧ (¬ h.1 (8 + k) 0 = -1 → ¬ h.1 (8 + k) 0 = 5 → (0 ≤ h.1 (8 + k) 0 ∧ h.1 (8 + k) 0 ≤ 4) ∧ 0 ≤ h.1 (8 + k) 3 ∧ h.1 (8 + k) 3 ≤ 60) := by
  rcases hI k hk with ⟨a, -⟩ | ⟨a, -⟩ | ⟨a, -, -, b⟩
  · exact ⟨by omega, fun z => absurd a z⟩
  · exact ⟨by omega, fun _ z => absurd a z⟩
  · exact ⟨by omega, fun _ _ => ⟨a, b⟩⟩
theorem c_X6_has {d : Nat} (h : zH) (k : Nat) (b : Int) (hk : k < 6) (hb : inR b) (hl : inR (h.1 (8 + k) 3)) : zC d k_X6_has [sR (8 + k), sI b] h (fun o g => h = g ∧ isB o (0 ≤ b ∧ b < h.1 (8 + k) 3)) := by
  refine zC_of (by decide +kernel) (Nat.le_of_ble_eq_true rfl) (fun X C E => zrun_sound t_X6_has C E [] 60 _ _ _ _ ?_)
  rcases (by omega : k = 0 ∨ k = 1 ∨ k = 2 ∨ k = 3 ∨ k = 4 ∨ k = 5) with rfl | rfl | rfl | rfl | rfl | rfl
  all_goals
    refine And.intro hb (And.intro (fun c => ?_) (fun c => ?_))
    · exact And.intro (Or.inl rfl) (And.intro rfl (Or.inr ⟨rfl, fun z => by omega⟩))
    · refine And.intro hb (And.intro hl (And.intro (fun c2 => ?_) (fun c2 => ?_)))
      · exact And.intro (Or.inl rfl) (And.intro rfl (Or.inr ⟨rfl, fun z => Int.not_lt.mpr c2 z.2⟩))
      · exact And.intro (Or.inr rfl) (And.intro rfl (Or.inl ⟨rfl, by omega, Int.not_le.mp c2⟩))
set_option maxHeartbeats 2000000 in
theorem c_X8_refusalOfElement {d : Nat} (hd : 4 ≤ d) (h : zH) (a b : Int) (ha : inR a) (hb : inR b) (hS : Ishf0 h) : zC d k_X8_refusalOfElement [sR 0, sI a, sI b] h (fun o g => h = g ∧ o = some (sI (refF h a b))) := by
  refine zC_of (by decide +kernel) (Nat.le_of_ble_eq_true rfl) (fun X C E => ?_)
  have core : ∀ k : Nat, k < 6 → refF h a b = refK h k b → zJ X 16 [some (sR 0), some (sI a), some (sI b), some (sR (8 + k))] [] h := by
    intro k hk hr
    obtain ⟨s1, s2⟩ := Ishf_R hS k hk
    have hd2 : d - 1 + 1 ≤ d := by omega
    refine zrun_sound t_X8_refusalOfElement C E [] 60 _ _ _ _ ?_
    rw [hr]
    unfold refK
    rcases (by omega : k = 0 ∨ k = 1 ∨ k = 2 ∨ k = 3 ∨ k = 4 ∨ k = 5) with rfl | rfl | rfl | rfl | rfl | rfl
    all_goals
      refine And.intro s1 (And.intro (by decide) (And.intro (fun c => ?_) (fun c => And.intro rfl (by rw [if_pos c]))))
      refine And.intro s1 (And.intro (by decide) (And.intro (fun c2 => ?_) (fun c2 => And.intro rfl (by rw [if_neg c, if_pos c2]))))
      have s3 := (s2 c c2).2
      refine zcall_i (d' := d - 1) hd2 (c_X6_has h _ b hk hb ⟨by omega, by omega⟩) ?_
      rintro o g ⟨rfl, ⟨rfl, z⟩ | ⟨rfl, z⟩⟩
      · refine And.intro (by decide) (And.intro (fun c3 => absurd c3 (by decide)) (fun _ => ?_))
        exact And.intro rfl (by rw [if_neg c, if_neg c2, if_pos z])
      · refine And.intro (by decide) (And.intro (fun _ => ?_) (fun c3 => absurd rfl c3))
        exact And.intro rfl (by rw [if_neg c, if_neg c2, if_neg z])
  refine zrun_sound t_X8_refusalOfElement C E [16] 60 _ _ _ _ ?_
  refine zcall_i (d' := d - 1) (by omega) (c_X8_isShelf (by omega) h a ha) ?_
  rintro _ _ ⟨rfl, rfl⟩
  refine And.intro g_in (And.intro (fun c1 => ?_) (fun c1 => And.intro rfl (by unfold refF; rw [if_neg (g_f c1)])))
  have q1 := g_t c1
  refine And.intro q1.1 (And.intro (show a < 6 by omega) ?_)
  have e : refF h a b = refK h a.toNat b := by unfold refF; rw [if_pos q1]
  clear c1
  rcases (by omega : a = 0 ∨ a = 1 ∨ a = 2 ∨ a = 3 ∨ a = 4 ∨ a = 5) with rfl | rfl | rfl | rfl | rfl | rfl
  · exact core 0 (by omega) e
  · exact core 1 (by omega) e
  · exact core 2 (by omega) e
  · exact core 3 (by omega) e
  · exact core 4 (by omega) e
  · exact core 5 (by omega) e
theorem Ishf_M {h : zH} (hI : Ishf0 h) (k : Nat) (hk : k < 6) (b : Int) : inR (h.1 78 k) ∧ (h.1 78 k < 0 → refK h k b = -11) ∧ (0 ≤ h.1 78 k → h.1 78 k < 50 → refK h k b = -12) ∧ (50 ≤ h.1 78 k → (0 ≤ h.1 79 k ∧ h.1 79 k ≤ 60) ∧ refK h k b = if 0 ≤ b ∧ b < h.1 79 k then 0 else -13) := by
  unfold refK
  rcases hI k hk with ⟨a, c⟩ | ⟨a, c, e⟩ | ⟨a, c, e1, e2⟩
  · rw [c, if_pos a]
    exact ⟨by decide, fun _ => rfl, fun z => absurd z (by decide), fun z => absurd z (by decide)⟩
  · rw [a, if_neg (by decide), if_pos rfl]
    exact ⟨by omega, fun z => by omega, fun _ _ => rfl, fun z => by omega⟩
  · rw [e1, if_neg (by omega), if_neg (by omega)]
    exact ⟨by omega, fun z => by omega, fun _ z => by omega, fun _ => ⟨e2, rfl⟩⟩
theorem c_X9_refusal {d : Nat} (hd : 4 ≤ d) (h : zH) (a b : Int) (ha : inR a) (hb : inR b) (hS : Ishf0 h) : zC d k_X9_refusal [sR 52, sI a, sI b] h (fun o g => h = g ∧ o = some (sI (refF h a b))) := by
  refine zC_of (by decide +kernel) (Nat.le_of_ble_eq_true rfl) (fun X C E => ?_)
  have bad : refF h a b = -13 → zJ X 53 [some (sR 52), some (sI a), some (sI b)] [] h := fun q => zrun_sound t_X9_refusal C E [] 60 _ _ _ _ (And.intro rfl (by rw [q]))
  refine zrun_sound t_X9_refusal C E [53] 60 _ _ _ _ ?_
  refine zcall_i (d' := d - 1) (by omega) (c_X9_isShelf (by omega) h a ha) ?_
  rintro _ _ ⟨rfl, rfl⟩
  refine And.intro g_in (And.intro (fun c1 => ?_) (fun c1 => And.intro rfl (by unfold refF; rw [if_neg (g_f c1)])))
  have q1 := g_t c1
  have e : refF h a b = refK h a.toNat b := by unfold refF; rw [if_pos q1]
  obtain ⟨s1, s2, s3, s4⟩ := Ishf_M hS a.toNat (by omega) b
  rw [← e] at s2 s3 s4
  have k0 := q1.1
  have k1 : a < 6 := by omega
  refine And.intro k0 (And.intro k1 (And.intro s1 (And.intro (fun c2 => ?_) (fun c2 => And.intro rfl (by rw [s2 (Int.not_le.mp c2)])))))
  refine And.intro k0 (And.intro k1 (And.intro s1 (And.intro (by decide) (And.intro (fun c3 => ?_) (fun c3 => And.intro rfl (by rw [s3 c2 (Int.not_le.mp c3)]))))))
  obtain ⟨s5, s6⟩ := s4 c3
  refine And.intro hb (And.intro (fun c4 => bad (by rw [s6, if_neg (by omega)])) (fun c4 => ?_))
  refine And.intro k0 (And.intro k1 (And.intro hb (And.intro ⟨by omega, by omega⟩ (And.intro (fun c5 => bad ?_) (fun c5 => ?_)))))
  · rw [s6, if_neg (fun z => Int.not_lt.mpr c5 z.2)]
  · exact And.intro rfl (by rw [s6, if_pos ⟨Int.not_lt.mp c4, Int.not_le.mp c5⟩])
def keptF (s : Int) (v : Int64) : Int64 := if s = 0 then i2l (i2b (l2i v)) else if s = 1 then i2l (i2s (l2i v)) else if s = 2 then i2l (l2i v) else if s = 4 then (if v = 0 then 0 else 1) else v
theorem c_X6_kept {d : Nat} (h : zH) (k : Nat) (v : Int64) (hk : k < 6) (hs : inR (h.1 (8 + k) 0)) : zC d k_X6_kept [sR (8 + k), sL v] h (fun o g => h = g ∧ o = some (sL (keptF (h.1 (8 + k) 0) v))) := by
  refine zC_of (by decide +kernel) (Nat.le_of_ble_eq_true rfl) (fun X C E => zrun_sound t_X6_kept C E [] 60 _ _ _ _ ?_)
  unfold keptF
  rcases (by omega : k = 0 ∨ k = 1 ∨ k = 2 ∨ k = 3 ∨ k = 4 ∨ k = 5) with rfl | rfl | rfl | rfl | rfl | rfl
  all_goals
    refine And.intro hs (And.intro (fun c => ?_) ⟨fun c => ?_, fun c => ?_, fun c => ?_, fun c => ?_, fun c => ?_, trivial⟩)
    · exact And.intro rfl (by rw [if_neg (by omega), if_neg (by omega), if_neg (by omega), if_neg (by omega)])
    · exact And.intro rfl (by rw [if_pos (by omega)])
    · exact And.intro rfl (by rw [if_neg (by omega), if_pos (by omega)])
    · exact And.intro rfl (by rw [if_neg (by omega), if_neg (by omega), if_pos (by omega)])
    · exact And.intro rfl (by rw [if_neg (by omega), if_neg (by omega), if_neg (by omega), if_neg (by omega)])
    · rw [if_neg (by omega), if_neg (by omega), if_neg (by omega), if_pos (by omega)]
      refine And.intro (fun c2 => ?_) (And.intro (fun c2 => ?_) (fun c2 => ?_))
      · refine And.intro (by decide) (And.intro (fun c3 => absurd c3 (by decide)) (fun _ => ?_))
        exact And.intro rfl (by rw [if_neg (fun z => by rw [z] at c2; exact absurd c2 (by decide))])
      · refine And.intro (by decide) (And.intro (fun _ => ?_) (fun c3 => absurd rfl c3))
        exact And.intro rfl (by rw [if_pos c2])
      · refine And.intro (by decide) (And.intro (fun c3 => absurd c3 (by decide)) (fun _ => ?_))
        exact And.intro rfl (by rw [if_neg (fun z => by rw [z] at c2; exact absurd c2 (by decide))])
theorem c_X9_asSort {d : Nat} (h : zH) (s : Int) (v : Int64) (hs : inR s) : zC d k_X9_asSort [sI s, sL v] h (fun o g => h = g ∧ o = some (sL (keptF s v))) := by
  refine zC_of (by decide +kernel) (Nat.le_of_ble_eq_true rfl) (fun X C E => zrun_sound t_X9_asSort C E [] 60 _ _ _ _ ?_)
  unfold keptF
  refine And.intro hs (And.intro (fun c => ?_) (fun c => And.intro rfl (by rw [if_pos c])))
  rw [if_neg c]
  refine And.intro hs (And.intro (by decide) (And.intro (fun c2 => ?_) (fun c2 => And.intro rfl (by rw [if_pos c2]))))
  rw [if_neg c2]
  refine And.intro hs (And.intro (by decide) (And.intro (fun c3 => ?_) (fun c3 => And.intro rfl (by rw [if_pos c3]))))
  rw [if_neg c3]
  refine And.intro hs (And.intro (by decide) (And.intro (fun c4 => And.intro rfl (by rw [if_neg c4])) (fun c4 => ?_)))
  rw [if_pos c4]
  refine And.intro (fun c2 => ?_) (And.intro (fun c2 => ?_) (fun c2 => ?_))
  · refine And.intro (by decide) (And.intro (fun c3 => absurd c3 (by decide)) (fun _ => ?_))
    exact And.intro rfl (by rw [if_neg (fun z => by rw [z] at c2; exact absurd c2 (by decide))])
  · refine And.intro (by decide) (And.intro (fun _ => ?_) (fun c3 => absurd rfl c3))
    exact And.intro rfl (by rw [if_pos c2])
  · refine And.intro (by decide) (And.intro (fun c3 => absurd c3 (by decide)) (fun _ => ?_))
    exact And.intro rfl (by rw [if_neg (fun z => by rw [z] at c2; exact absurd c2 (by decide))])
theorem refF_0 {h : zH} {a b : Int} (hS : Ishf0 h) (hr : refF h a b = 0) : (0 ≤ a ∧ a ≤ 5) ∧ (0 ≤ h.1 (8 + a.toNat) 0 ∧ h.1 (8 + a.toNat) 0 ≤ 4) ∧ (0 ≤ b ∧ b < 60) ∧ h.1 78 a.toNat = 50 + h.1 (8 + a.toNat) 0 := by
  unfold refF at hr
  by_cases q : 0 ≤ a ∧ a ≤ 5
  · rw [if_pos q] at hr
    unfold refK at hr
    by_cases c1 : h.1 (8 + a.toNat) 0 = -1
    · rw [if_pos c1] at hr; omega
    · rw [if_neg c1] at hr
      by_cases c2 : h.1 (8 + a.toNat) 0 = 5
      · rw [if_pos c2] at hr; omega
      · rw [if_neg c2] at hr
        by_cases c3 : 0 ≤ b ∧ b < h.1 (8 + a.toNat) 3
        · rcases hS a.toNat (by omega) with ⟨z, -⟩ | ⟨z, -⟩ | ⟨z1, z2, z3, z4⟩
          · exact absurd z c1
          · exact absurd z c2
          · exact ⟨q, z1, by omega, z2⟩
        · rw [if_neg c3] at hr; omega
  · rw [if_neg q] at hr; omega
set_option maxHeartbeats 2000000 in
theorem c_X8_put {d : Nat} (hd : 6 ≤ d) (h : zH) (a b : Int) (v : Int64) (ha : inR a) (hb : inR b) (hS : Ishf0 h) : zC d k_X8_put [sR 0, sI a, sI b, sL v] h (fun o g => (¬ refF h a b = 0 ∧ g = h ∧ o = some (sI (refF h a b))) ∨ (refF h a b = 0 ∧ g = setL h (46 + a.toNat) b.toNat (keptF (h.1 (8 + a.toNat) 0) v) ∧ o = some (sI 1))) := by
  have rin : inR (refF h a b) := by
    unfold refF refK
    repeat' split
    all_goals omega
  refine zC_of (by decide +kernel) (Nat.le_of_ble_eq_true rfl) (fun X C E => zrun_sound t_X8_put C E [] 60 _ _ _ _ ?_)
  refine zcall_i (d' := d - 1) (by omega) (c_X8_refusalOfElement (by omega) h a b ha hb hS) ?_
  rintro _ _ ⟨rfl, rfl⟩
  refine And.intro rin (And.intro (fun c => ?_) (fun c => Or.inl ⟨c, rfl, rfl⟩))
  obtain ⟨q, z1, z2, -⟩ := refF_0 hS c
  have sR1 := (Ishf_R hS a.toNat (by omega)).1
  have k0 := q.1
  have k1 : a < 6 := by omega
  have b0 := z2.1
  have b1 := z2.2
  have hd2 : d - 1 + 1 ≤ d := by omega
  refine And.intro k0 (And.intro k1 ?_)
  clear rin
  rcases (by omega : a = 0 ∨ a = 1 ∨ a = 2 ∨ a = 3 ∨ a = 4 ∨ a = 5) with rfl | rfl | rfl | rfl | rfl | rfl
  · refine And.intro k0 (And.intro k1 ?_)
    refine zcall_i (d' := d - 1) hd2 (c_X6_kept h 0 v (by omega) sR1) ?_
    rintro _ _ ⟨rfl, rfl⟩
    exact And.intro b0 (And.intro b1 (Or.inr ⟨c, rfl, rfl⟩))
  · refine And.intro k0 (And.intro k1 ?_)
    refine zcall_i (d' := d - 1) hd2 (c_X6_kept h 1 v (by omega) sR1) ?_
    rintro _ _ ⟨rfl, rfl⟩
    exact And.intro b0 (And.intro b1 (Or.inr ⟨c, rfl, rfl⟩))
  · refine And.intro k0 (And.intro k1 ?_)
    refine zcall_i (d' := d - 1) hd2 (c_X6_kept h 2 v (by omega) sR1) ?_
    rintro _ _ ⟨rfl, rfl⟩
    exact And.intro b0 (And.intro b1 (Or.inr ⟨c, rfl, rfl⟩))
  · refine And.intro k0 (And.intro k1 ?_)
    refine zcall_i (d' := d - 1) hd2 (c_X6_kept h 3 v (by omega) sR1) ?_
    rintro _ _ ⟨rfl, rfl⟩
    exact And.intro b0 (And.intro b1 (Or.inr ⟨c, rfl, rfl⟩))
  · refine And.intro k0 (And.intro k1 ?_)
    refine zcall_i (d' := d - 1) hd2 (c_X6_kept h 4 v (by omega) sR1) ?_
    rintro _ _ ⟨rfl, rfl⟩
    exact And.intro b0 (And.intro b1 (Or.inr ⟨c, rfl, rfl⟩))
  · refine And.intro k0 (And.intro k1 ?_)
    refine zcall_i (d' := d - 1) hd2 (c_X6_kept h 5 v (by omega) sR1) ?_
    rintro _ _ ⟨rfl, rfl⟩
    exact And.intro b0 (And.intro b1 (Or.inr ⟨c, rfl, rfl⟩))
theorem c_X9_put {d : Nat} (hd : 6 ≤ d) (h : zH) (a b : Int) (v : Int64) (ha : inR a) (hb : inR b) (hS : Ishf0 h) : zC d k_X9_put [sR 52, sI a, sI b, sL v] h (fun o g => (¬ refF h a b = 0 ∧ g = h ∧ o = some (sI (refF h a b))) ∨ (refF h a b = 0 ∧ g = setL h 80 (60 * a.toNat + b.toNat) (keptF (h.1 (8 + a.toNat) 0) v) ∧ o = some (sI 1))) := by
  have rin : inR (refF h a b) := by
    unfold refF refK
    repeat' split
    all_goals omega
  refine zC_of (by decide +kernel) (Nat.le_of_ble_eq_true rfl) (fun X C E => zrun_sound t_X9_put C E [] 60 _ _ _ _ ?_)
  refine zcall_i (d' := d - 1) (by omega) (c_X9_refusal (by omega) h a b ha hb hS) ?_
  rintro _ _ ⟨rfl, rfl⟩
  refine And.intro rin (And.intro (fun c => ?_) (fun c => ?_))
  · exact And.intro rin (And.intro (fun c2 => Or.inl ⟨c, rfl, rfl⟩) (fun c2 => absurd c2 c))
  · obtain ⟨q, z1, z2, z3⟩ := refF_0 hS c
    have k0 := q.1
    have k1 : a < 6 := by omega
    have tn : (60 * a + b).toNat = 60 * a.toNat + b.toNat := by omega
    refine And.intro k0 (And.intro k1 ?_)
    rw [z3, show 50 + h.1 (8 + a.toNat) 0 - 50 = h.1 (8 + a.toNat) 0 by omega]
    refine zcall_i (d' := d - 1) (by omega) (c_X9_asSort h _ v (by omega)) ?_
    rintro _ _ ⟨rfl, rfl⟩
    refine And.intro (by omega) (And.intro (by omega) ?_)
    rw [tn]
    refine And.intro rin (And.intro (fun c2 => absurd c c2) (fun c2 => ?_))
    exact Or.inr ⟨c, rfl, rfl⟩
theorem pr_put {d : Nat} (hd : 6 ≤ d) {a b : Int} {v : Int64} (ha : inR a) (hb : inR b) : Pair2 d k_X8_put k_X9_put [sI a, sI b, sL v] := fun h hI => by
  have i9 := hI.1.2.2.2.2.2.2.2.2.1
  have i0 := Ishf0_of i9 hI.1.2.2.2.2.2.2.2.1.2.1.2
  refine zC_mono (c_X8_put hd h a b v ha hb i0) ?_
  rintro o g (⟨q, rfl, rfl⟩ | ⟨q, rfl, rfl⟩)
  · refine ⟨_, rfl, zC_mono (c_X9_put hd g a b v ha hb i0) ?_⟩
    rintro o g' (⟨z, rfl, rfl⟩ | ⟨z, -⟩)
    · exact ⟨rfl, hI⟩
    · exact absurd z q
  · have hk := (refF_0 i0 q).1
    have k6 : a.toNat < 6 := by omega
    have hb60 := (refF_0 i0 q).2.2.1
    have i9' : Ishf (setL (setL h (46 + a.toNat) b.toNat (keptF (h.1 (8 + a.toNat) 0) v)) 80 (60 * a.toNat + b.toNat) (keptF (h.1 (8 + a.toNat) 0) v)) := by
      intro k hk6
      rcases i9 k hk6 with y | y | ⟨y1, y2, y3, y4, y5⟩
      · exact Or.inl y
      · exact Or.inr (Or.inl y)
      · refine Or.inr (Or.inr ⟨y1, y2, y3, y4, fun i hi => ?_⟩)
        rw [setL_at, setL_at, setL_at, setL_at]
        by_cases e : k = a.toNat ∧ i = b.toNat
        · obtain ⟨rfl, rfl⟩ := e
          rw [if_pos ⟨rfl, rfl⟩, if_neg (by omega), if_pos ⟨rfl, rfl⟩]
        · rw [if_neg (by omega), if_neg (by omega), if_neg (by omega), if_neg (by omega)]
          exact y5 i hi
    refine ⟨_, rfl, zC_mono (c_X9_put hd (setL h (46 + a.toNat) b.toNat (keptF (h.1 (8 + a.toNat) 0) v)) a b v ha hb i0) ?_⟩
    rintro o g' (⟨z, -, -⟩ | ⟨z, rfl, rfl⟩)
    · exact absurd q z
    · exact ⟨rfl, Inv_shf hI (fun c _ => rfl) i9'⟩
def elF (h : zH) (a b : Int) : Int64 := if refF h a b = 0 then h.2 (46 + a.toNat) b.toNat else -9223372036854775808
def PairL (d : Nat) (kc km : zM) (As : List zV) : Prop := ∀ h : zH, Inv2 h → zC d kc (sR 0 :: As) h (fun o g => ∃ r : Int64, o = some (sL r) ∧ zC d km (sR 52 :: As) g (fun o' g' => o' = some (sL r) ∧ Inv2 g'))
theorem c_X8_element {d : Nat} (hd : 6 ≤ d) (h : zH) (a b : Int) (ha : inR a) (hb : inR b) (hS : Ishf0 h) : zC d k_X8_element [sR 0, sI a, sI b] h (fun o g => h = g ∧ o = some (sL (elF h a b))) := by
  have rin : inR (refF h a b) := by
    unfold refF refK
    repeat' split
    all_goals omega
  refine zC_of (by decide +kernel) (Nat.le_of_ble_eq_true rfl) (fun X C E => zrun_sound t_X8_element C E [] 60 _ _ _ _ ?_)
  refine zcall_i (d' := d - 1) (by omega) (c_X8_refusalOfElement (by omega) h a b ha hb hS) ?_
  rintro _ _ ⟨rfl, rfl⟩
  unfold elF
  refine And.intro rin (And.intro (fun c => ?_) (fun c => And.intro rfl (by rw [if_neg c])))
  rw [if_pos c]
  obtain ⟨q, z1, z2, -⟩ := refF_0 hS c
  have k0 := q.1
  have k1 : a < 6 := by omega
  have b0 := z2.1
  have b1 := z2.2
  refine And.intro k0 (And.intro k1 ?_)
  clear rin
  rcases (by omega : a = 0 ∨ a = 1 ∨ a = 2 ∨ a = 3 ∨ a = 4 ∨ a = 5) with rfl | rfl | rfl | rfl | rfl | rfl
  all_goals exact And.intro b0 (And.intro b1 (And.intro rfl rfl))
theorem c_X9_element {d : Nat} (hd : 6 ≤ d) (h : zH) (a b : Int) (ha : inR a) (hb : inR b) (hS : Ishf0 h) : zC d k_X9_element [sR 52, sI a, sI b] h (fun o g => h = g ∧ o = some (sL (if refF h a b = 0 then h.2 80 (60 * a.toNat + b.toNat) else -9223372036854775808))) := by
  have rin : inR (refF h a b) := by
    unfold refF refK
    repeat' split
    all_goals omega
  refine zC_of (by decide +kernel) (Nat.le_of_ble_eq_true rfl) (fun X C E => zrun_sound t_X9_element C E [] 60 _ _ _ _ ?_)
  refine zcall_i (d' := d - 1) (by omega) (c_X9_refusal (by omega) h a b ha hb hS) ?_
  rintro _ _ ⟨rfl, rfl⟩
  refine And.intro rin (And.intro (fun c => ?_) (fun c => And.intro rfl (by rw [if_neg c])))
  rw [if_pos c]
  obtain ⟨q, z1, z2, -⟩ := refF_0 hS c
  have tn : (60 * a + b).toNat = 60 * a.toNat + b.toNat := by omega
  refine And.intro (by omega) (And.intro (by omega) ?_)
  rw [tn]
  exact And.intro rfl rfl
theorem refF_len {h : zH} {a b : Int} (hr : refF h a b = 0) (k : Nat) (hk : k = a.toNat) : ¬ h.1 (8 + k) 0 = -1 ∧ ¬ h.1 (8 + k) 0 = 5 := by
  subst hk
  unfold refF at hr
  by_cases q : 0 ≤ a ∧ a ≤ 5
  · rw [if_pos q] at hr
    unfold refK at hr
    by_cases c1 : h.1 (8 + a.toNat) 0 = -1
    · rw [if_pos c1] at hr; omega
    · rw [if_neg c1] at hr
      by_cases c2 : h.1 (8 + a.toNat) 0 = 5
      · rw [if_pos c2] at hr; omega
      · exact ⟨c1, c2⟩
  · rw [if_neg q] at hr; omega
theorem pr_element {d : Nat} (hd : 6 ≤ d) {a b : Int} (ha : inR a) (hb : inR b) : PairL d k_X8_element k_X9_element [sI a, sI b] := fun h hI => by
  have i9 := hI.1.2.2.2.2.2.2.2.2.1
  have i0 := Ishf0_of i9 hI.1.2.2.2.2.2.2.2.1.2.1.2
  refine zC_mono (c_X8_element hd h a b ha hb i0) ?_
  rintro o g ⟨rfl, rfl⟩
  refine ⟨_, rfl, zC_mono (c_X9_element hd h a b ha hb i0) ?_⟩
  rintro o g' ⟨rfl, rfl⟩
  refine ⟨?_, hI⟩
  unfold elF
  by_cases c : refF h a b = 0
  · obtain ⟨q, z1, z2, -⟩ := refF_0 i0 c
    obtain ⟨n1, n2⟩ := refF_len c a.toNat rfl
    rw [if_pos c, if_pos c]
    rcases i9 a.toNat (by omega) with ⟨y, -⟩ | ⟨y, -⟩ | ⟨-, -, -, -, y⟩
    · exact absurd y n1
    · exact absurd y n2
    · rw [y b.toNat (by omega)]
  · rw [if_neg c, if_neg c]
/-! ===== shelves: shift, taken ===== -/
theorem sh_at : ∀ k : Nat, k < 6 → ((SHP 14).2.2.getD k (2, 0)).2 = 8 + k := by decide
def okS (h : zH) (a i b j n : Int) : Prop := (0 ≤ a ∧ a ≤ 5) ∧ (0 ≤ b ∧ b ≤ 5) ∧ ¬ h.1 (8 + a.toNat) 0 = -1 ∧ ¬ h.1 (8 + a.toNat) 0 = 5 ∧ h.1 (8 + a.toNat) 0 = h.1 (8 + b.toNat) 0 ∧ 0 ≤ i ∧ 0 ≤ j ∧ 0 ≤ n ∧ i + n ≤ h.1 (8 + a.toNat) 3 ∧ j + n ≤ h.1 (8 + b.toNat) 3
def erS (h : zH) (a b : Int) : Int := if (0 ≤ a ∧ a ≤ 5) ∧ (0 ≤ b ∧ b ≤ 5) then (if h.1 (8 + a.toNat) 0 = -1 ∨ h.1 (8 + b.toNat) 0 = -1 then -11 else if h.1 (8 + a.toNat) 0 = 5 ∨ ¬ h.1 (8 + a.toNat) 0 = h.1 (8 + b.toNat) 0 then -12 else -13) else -1
theorem c_X6_hasRun {d : Nat} (h : zH) (k : Nat) (i n : Int) (hk : k < 6) (hi : inR i) (hn : inR n) (hl : 0 ≤ h.1 (8 + k) 3 ∧ h.1 (8 + k) 3 ≤ 60) : zC d k_X6_hasRun [sR (8 + k), sI i, sI n] h (fun o g => h = g ∧ isB o (0 ≤ i ∧ 0 ≤ n ∧ i + n ≤ h.1 (8 + k) 3)) := by
  refine zC_of (by decide +kernel) (Nat.le_of_ble_eq_true rfl) (fun X C E => zrun_sound t_X6_hasRun C E [] 60 _ _ _ _ ?_)
  obtain ⟨l, hl2⟩ : ∃ l, l = h.1 (8 + k) 3 := ⟨_, rfl⟩
  rw [← hl2] at hl ⊢
  rcases (by omega : k = 0 ∨ k = 1 ∨ k = 2 ∨ k = 3 ∨ k = 4 ∨ k = 5) with rfl | rfl | rfl | rfl | rfl | rfl
  all_goals
    have lin : inR (h.1 (8 + _) 3) := by rw [← hl2]; exact ⟨by omega, by omega⟩
    refine And.intro hi (And.intro (fun c => ?_) (fun c => ?_))
    · exact And.intro (Or.inl rfl) (And.intro rfl (Or.inr ⟨rfl, fun z => by omega⟩))
    · refine And.intro hn (And.intro (fun c2 => ?_) (fun c2 => ?_))
      · exact And.intro (Or.inl rfl) (And.intro rfl (Or.inr ⟨rfl, fun z => by omega⟩))
      · refine And.intro hn (And.intro lin (And.intro (fun c3 => ?_) (fun c3 => ?_)))
        · have c3' : l < n := by rw [hl2]; exact c3
          exact And.intro (Or.inl rfl) (And.intro rfl (Or.inr ⟨rfl, fun z => by omega⟩))
        · have c3' : ¬ l < n := by rw [hl2]; exact c3
          have lin2 : inR (h.1 (8 + _) 3 - n) := by rw [← hl2]; exact ⟨by omega, by omega⟩
          refine And.intro hi (And.intro lin2 (And.intro (fun c4 => ?_) (fun c4 => ?_)))
          · have c4' : l - n < i := by rw [hl2]; exact c4
            exact And.intro (Or.inl rfl) (And.intro rfl (Or.inr ⟨rfl, fun z => by omega⟩))
          · have c4' : ¬ l - n < i := by rw [hl2]; exact c4
            exact And.intro (Or.inr rfl) (And.intro rfl (Or.inl ⟨rfl, by omega, by omega, by omega⟩))
def shR (h g : zH) (a i b j n : Int) (o : Option zV) : Prop := (¬ okS h a i b j n ∧ g = h ∧ o = some (sI (erS h a b))) ∨ (okS h a i b j n ∧ g = cpL h (46 + a.toNat) i.toNat (46 + b.toNat) j.toNat n.toNat ∧ o = some (sI n))
theorem shR_e {h : zH} {a i b j n r : Int} (q : ¬ okS h a i b j n) (hr : erS h a b = r) : shR h h a i b j n (some (sI r)) := Or.inl ⟨q, rfl, by rw [hr]⟩
set_option maxHeartbeats 16000000 in
theorem sh_core {X : zX} {d : Nat} {h : zH} {a i b j n : Int} (hd : 6 ≤ d) (C : zCx X d k_X8_shift) (E : zEx X k_X8_shift (fun o g => shR h g a i b j n o)) (k l : Nat) (hk : k < 6) (hl : l < 6) (ea : k = a.toNat) (eb : l = b.toNat) (q1 : 0 ≤ a ∧ a ≤ 5) (q2 : 0 ≤ b ∧ b ≤ 5) (hi : inR i) (hj : inR j) (hn : inR n) (hS : Ishf0 h) :
    zJ X 32 [some (sR 0), some (sI a), some (sI i), some (sI b), some (sI j), some (sI n), some (sR (8 + k)), some (sR (8 + l))] [] h := by
  obtain ⟨s1, s2⟩ := Ishf_R hS k hk
  obtain ⟨s3, s4⟩ := Ishf_R hS l hl
  have b1 : ∀ r : Int, (h.1 (8 + k) 0 = -1 ∨ h.1 (8 + l) 0 = -1) → shR h h a i b j n (some (sI (-11))) := fun _ c => by
    rw [ea, eb] at c
    refine shR_e (fun z => ?_) (by unfold erS; rw [if_pos ⟨q1, q2⟩, if_pos c])
    obtain ⟨-, -, z1, z2, z3, -⟩ := z
    omega
  have b2 : ¬ (h.1 (8 + k) 0 = -1 ∨ h.1 (8 + l) 0 = -1) → (h.1 (8 + k) 0 = 5 ∨ ¬ h.1 (8 + k) 0 = h.1 (8 + l) 0) → shR h h a i b j n (some (sI (-12))) := fun c c' => by
    rw [ea, eb] at c c'
    refine shR_e (fun z => ?_) (by unfold erS; rw [if_pos ⟨q1, q2⟩, if_neg c, if_pos c'])
    obtain ⟨-, -, z1, z2, z3, -⟩ := z
    omega
  have b3 : ¬ (h.1 (8 + k) 0 = -1 ∨ h.1 (8 + l) 0 = -1) → ¬ (h.1 (8 + k) 0 = 5 ∨ ¬ h.1 (8 + k) 0 = h.1 (8 + l) 0) → ¬ ((0 ≤ i ∧ 0 ≤ n ∧ i + n ≤ h.1 (8 + k) 3) ∧ (0 ≤ j ∧ 0 ≤ n ∧ j + n ≤ h.1 (8 + l) 3)) → shR h h a i b j n (some (sI (-13))) := fun c c' c'' => by
    rw [ea, eb] at c c' c''
    refine shR_e (fun z => ?_) (by unfold erS; rw [if_pos ⟨q1, q2⟩, if_neg c, if_neg c'])
    obtain ⟨-, -, -, -, -, z1, z2, z3, z4, z5⟩ := z
    exact c'' ⟨⟨z1, z3, z4⟩, z2, z3, z5⟩
  have b4 : ¬ (h.1 (8 + k) 0 = -1 ∨ h.1 (8 + l) 0 = -1) → ¬ (h.1 (8 + k) 0 = 5 ∨ ¬ h.1 (8 + k) 0 = h.1 (8 + l) 0) → (0 ≤ i ∧ 0 ≤ n ∧ i + n ≤ h.1 (8 + k) 3) → (0 ≤ j ∧ 0 ≤ n ∧ j + n ≤ h.1 (8 + l) 3) → shR h (cpL h (46 + k) i.toNat (46 + l) j.toNat n.toNat) a i b j n (some (sI n)) := fun c c' c1 c2 => by
    rw [ea, eb] at c c' c1 c2 ⊢
    refine Or.inr ⟨⟨q1, q2, by omega, by omega, by omega, c1.1, c2.1, c1.2.1, c1.2.2, c2.2.2⟩, rfl, rfl⟩
  have hd1 : 1 ≤ d := by omega
  have hd2 : d - 1 + 1 ≤ d := by omega
  refine zrun_sound t_X8_shift C E [] 60 _ _ _ _ ?_
  clear E
  rcases (by omega : k = 0 ∨ k = 1 ∨ k = 2 ∨ k = 3 ∨ k = 4 ∨ k = 5) with rfl | rfl | rfl | rfl | rfl | rfl <;> rcases (by omega : l = 0 ∨ l = 1 ∨ l = 2 ∨ l = 3 ∨ l = 4 ∨ l = 5) with rfl | rfl | rfl | rfl | rfl | rfl
  all_goals
    refine And.intro s1 (And.intro (by decide) (And.intro (fun c => b1 0 (Or.inl c)) (fun c => ?_)))
    refine And.intro s3 (And.intro (by decide) (And.intro (fun c2 => ?_) (fun c2 => b1 0 (Or.inr c2))))
    have c12 := fun z => Or.elim z c c2
    refine And.intro s1 (And.intro (by decide) (And.intro (fun c3 => b2 c12 (Or.inl c3)) (fun c3 => ?_)))
    refine And.intro s1 (And.intro s3 (And.intro (fun c4 => ?_) (fun c4 => b2 c12 (Or.inr c4))))
    have c34 := fun z => Or.elim z c3 (fun z2 => z2 c4)
    have la := (s2 c c3).2
    have lb' := (s4 c2 (fun z => c3 (c4.trans z))).2
    refine zcall_i (d' := d - 1) hd2 (c_X6_hasRun h _ i n hk hi hn la) ?_
    rintro o g ⟨rfl, ⟨rfl, z⟩ | ⟨rfl, z⟩⟩
    · refine And.intro (by decide) (And.intro (fun c5 => absurd c5 (by decide)) (fun _ => ?_))
      refine zcall_i (d' := d - 1) hd2 (c_X6_hasRun h _ j n hl hj hn lb') ?_
      rintro o g ⟨rfl, ⟨rfl, z2⟩ | ⟨rfl, z2⟩⟩
      · refine And.intro (by decide) (And.intro (fun _ => ?_) (fun c5 => absurd c5 (by decide)))
        refine And.intro hd1 (And.intro z.1 (And.intro z2.1 (And.intro z.2.1 (And.intro (Int.le_trans z.2.2 la.2) (And.intro (Int.le_trans z2.2.2 lb'.2) ?_)))))
        exact b4 c12 c34 z z2
      · refine And.intro (by decide) (And.intro (fun c5 => absurd rfl c5) (fun _ => ?_))
        exact b3 c12 c34 (fun z3 => z2 z3.2)
    · refine And.intro (by decide) (And.intro (fun _ => ?_) (fun c5 => absurd rfl c5))
      exact b3 c12 c34 (fun z3 => z z3.1)
theorem c_X8_shift {d : Nat} (hd : 6 ≤ d) (h : zH) (a i b j n : Int) (ha : inR a) (hi : inR i) (hb : inR b) (hj : inR j) (hn : inR n) (hS : Ishf0 h) :
    zC d k_X8_shift [sR 0, sI a, sI i, sI b, sI j, sI n] h (fun o g => shR h g a i b j n o) := by
  refine zC_of (by decide +kernel) (Nat.le_of_ble_eq_true rfl) (fun X C E => zrun_sound t_X8_shift C E [32] 60 _ _ _ _ ?_)
  refine zcall_i (d' := d - 1) (by omega) (c_X8_isShelf (by omega) h a ha) ?_
  rintro _ _ ⟨rfl, rfl⟩
  refine And.intro g_in (And.intro (fun c1 => shR_e (fun z => g_f c1 z.1) (by unfold erS; rw [if_neg (fun z => g_f c1 z.1)])) (fun c1 => ?_))
  refine zcall_i (d' := d - 1) (by omega) (c_X8_isShelf (by omega) h b hb) ?_
  rintro _ _ ⟨rfl, rfl⟩
  refine And.intro g_in (And.intro (fun c2 => ?_) (fun c2 => shR_e (fun z => g_f c2 z.2.1) (by unfold erS; rw [if_neg (fun z => g_f c2 z.2)])))
  have q1 := g_t c1
  have q2 := g_t c2
  refine And.intro q1.1 (And.intro (show a < 6 by omega) (And.intro q2.1 (And.intro (show b < 6 by omega) ?_)))
  refine zJ_le (sh_core hd C E a.toNat b.toNat (by omega) (by omega) rfl rfl q1 q2 hi hj hn hS) (And.intro rfl (And.intro rfl (And.intro rfl (And.intro rfl (And.intro rfl (And.intro rfl (And.intro ?_ (And.intro ?_ trivial)))))))) rfl rfl
  · exact (congrArg sR (sh_at a.toNat (by omega))).symm
  · exact (congrArg sR (sh_at b.toNat (by omega))).symm
/-- the first loop: what is carried; the second: where it goes -/
def shA1 (h H : zH) (p t : Nat) : Prop := H.1 = h.1 ∧ (∀ c, c ≠ 81 → H.2 c = h.2 c) ∧ ∀ x, x < t → H.2 81 x = h.2 80 (p + x)
def shA2 (h H : zH) (p q n t : Nat) : Prop := H.1 = h.1 ∧ (∀ c, c ≠ 80 → c ≠ 81 → H.2 c = h.2 c) ∧ (∀ x, x < n → H.2 81 x = h.2 80 (p + x)) ∧ ∀ x, H.2 80 x = if q ≤ x ∧ x < q + t then h.2 80 (p + (x - q)) else h.2 80 x
theorem shA1_s {h H : zH} {p t : Nat} (a : shA1 h H p t) : shA1 h (setL H 81 t (H.2 80 (p + t))) p (t + 1) := by
  obtain ⟨a1, a2, a3⟩ := a
  refine ⟨a1, fun c hc => funext fun i => ?_, fun x hx => ?_⟩
  · rw [setL_at, if_neg (fun z => hc z.1), a2 c hc]
  · rw [setL_at]
    by_cases e : x = t
    · rw [if_pos ⟨rfl, e⟩, a2 80 (by omega), e]
    · rw [if_neg (fun z => e z.2)]
      exact a3 x (by omega)
theorem shA2_s {h H : zH} {p q n t : Nat} (a : shA2 h H p q n t) (ht : t < n) : shA2 h (setL H 80 (q + t) (H.2 81 t)) p q n (t + 1) := by
  obtain ⟨a1, a2, a3, a4⟩ := a
  refine ⟨a1, fun c hc hc2 => funext fun i => ?_, fun x hx => ?_, fun x => ?_⟩
  · rw [setL_at, if_neg (fun z => hc z.1), a2 c hc hc2]
  · rw [setL_at, if_neg (fun z => absurd z.1 (by decide))]
    exact a3 x hx
  · rw [setL_at]
    by_cases e : x = q + t
    · rw [if_pos ⟨rfl, e⟩, if_pos (by omega), a3 t ht, e, show q + t - q = t by omega]
    · rw [if_neg (fun z => e z.2), a4 x]
      by_cases e2 : q ≤ x ∧ x < q + t
      · rw [if_pos e2, if_pos (by omega)]
      · rw [if_neg e2, if_neg (by omega)]
set_option maxHeartbeats 2000000 in
theorem c_X9_shift {d : Nat} (hd : 6 ≤ d) (h : zH) (a i b j n : Int) (ha : inR a) (hi : inR i) (hb : inR b) (hj : inR j) (hn : inR n) (hS : Ishf0 h) :
    zC d k_X9_shift [sR 52, sI a, sI i, sI b, sI j, sI n] h (fun o g => (¬ okS h a i b j n ∧ g = h ∧ o = some (sI (erS h a b))) ∨ (okS h a i b j n ∧ shA2 h g (60 * a + i).toNat (60 * b + j).toNat n.toNat n.toNat ∧ o = some (sI n))) := by
  refine zC_of (by decide +kernel) (Nat.le_of_ble_eq_true rfl) (fun X C E => ?_)
  have loop2 : okS h a i b j n → ∀ (f t : Nat) (H : zH), t + f = n.toNat → shA2 h H (60 * a + i).toNat (60 * b + j).toNat n.toNat t → zJ X 150 [some (sR 52), some (sI a), some (sI i), some (sI b), some (sI j), some (sI n), some (sI t)] [] H := by
    intro ok f
    have ok2 := ok
    obtain ⟨o1, o2, o3, o4, o5, o6, o7, o8, o9, o10⟩ := ok2
    have L1 := ((Ishf_R hS a.toNat (by omega)).2 o3 o4).2
    have L2 := ((Ishf_R hS b.toNat (by omega)).2 (by omega) (by omega)).2
    induction f with
    | zero =>
      intro t H ht hA
      refine zrun_sound t_X9_shift C E [] 60 _ _ _ _ ?_
      refine And.intro (by omega) (And.intro hn (And.intro (fun c => ?_) (fun c => absurd (by omega) c)))
      have : t = n.toNat := by omega
      subst this
      exact Or.inr ⟨ok, hA, rfl⟩
    | succ f ih =>
      intro t H ht hA
      have tn : (60 * b + j + (t : Int)).toNat = (60 * b + j).toNat + t := by omega
      refine zrun_sound t_X9_shift C E [150] 60 _ _ _ _ ?_
      refine And.intro (by omega) (And.intro hn (And.intro (fun c => absurd c (by omega)) (fun c => ?_)))
      refine And.intro (by omega) (And.intro (by omega) ?_)
      refine And.intro (by omega) (And.intro (by omega) ?_)
      rw [tn]
      exact zJ_le (ih (t + 1) _ (by omega) (shA2_s hA (by omega))) (And.intro rfl (And.intro rfl (And.intro rfl (And.intro rfl (And.intro rfl (And.intro rfl (And.intro rfl trivial))))))) rfl rfl
  have loop1 : okS h a i b j n → ∀ (f t : Nat) (H : zH), t + f = n.toNat → shA1 h H (60 * a + i).toNat t → zJ X 113 [some (sR 52), some (sI a), some (sI i), some (sI b), some (sI j), some (sI n), some (sI t)] [] H := by
    intro ok f
    have ok2 := ok
    obtain ⟨o1, o2, o3, o4, o5, o6, o7, o8, o9, o10⟩ := ok2
    have L1 := ((Ishf_R hS a.toNat (by omega)).2 o3 o4).2
    have L2 := ((Ishf_R hS b.toNat (by omega)).2 (by omega) (by omega)).2
    induction f with
    | zero =>
      intro t H ht hA
      refine zrun_sound t_X9_shift C E [150] 60 _ _ _ _ ?_
      refine And.intro (by omega) (And.intro hn (And.intro (fun c => ?_) (fun c => absurd (by omega) c)))
      obtain ⟨a1, a2, a3⟩ := hA
      exact zJ_le (loop2 ok n.toNat 0 H (by omega) ⟨a1, fun c hc hc2 => a2 c hc2, fun x hx => a3 x (by omega), fun x => by rw [if_neg (by omega), a2 80 (by omega)]⟩) (And.intro rfl (And.intro rfl (And.intro rfl (And.intro rfl (And.intro rfl (And.intro rfl (And.intro rfl trivial))))))) rfl rfl
    | succ f ih =>
      intro t H ht hA
      have tn : (60 * a + i + (t : Int)).toNat = (60 * a + i).toNat + t := by omega
      refine zrun_sound t_X9_shift C E [113] 60 _ _ _ _ ?_
      refine And.intro (by omega) (And.intro hn (And.intro (fun c => absurd c (by omega)) (fun c => ?_)))
      refine And.intro (by omega) (And.intro (by omega) ?_)
      refine And.intro (by omega) (And.intro (by omega) ?_)
      rw [tn]
      exact zJ_le (ih (t + 1) _ (by omega) (shA1_s hA)) (And.intro rfl (And.intro rfl (And.intro rfl (And.intro rfl (And.intro rfl (And.intro rfl (And.intro rfl trivial))))))) rfl rfl
  have e13 : ¬ okS h a i b j n → erS h a b = -13 → zJ X 107 [some (sR 52), some (sI a), some (sI i), some (sI b), some (sI j), some (sI n)] [] h := fun q1 q2 => zrun_sound t_X9_shift C E [] 60 _ _ _ _ (Or.inl ⟨q1, rfl, by rw [q2]⟩)
  have e12 : ¬ okS h a i b j n → erS h a b = -12 → zJ X 63 [some (sR 52), some (sI a), some (sI i), some (sI b), some (sI j), some (sI n)] [] h := fun q1 q2 => zrun_sound t_X9_shift C E [] 60 _ _ _ _ (Or.inl ⟨q1, rfl, by rw [q2]⟩)
  have e11 : ¬ okS h a i b j n → erS h a b = -11 → zJ X 34 [some (sR 52), some (sI a), some (sI i), some (sI b), some (sI j), some (sI n)] [] h := fun q1 q2 => zrun_sound t_X9_shift C E [] 60 _ _ _ _ (Or.inl ⟨q1, rfl, by rw [q2]⟩)
  refine zrun_sound t_X9_shift C E [34, 63, 107, 113] 60 _ _ _ _ ?_
  refine zcall_i (d' := d - 1) (by omega) (c_X9_isShelf (by omega) h a ha) ?_
  rintro _ _ ⟨rfl, rfl⟩
  refine And.intro g_in (And.intro (fun c1 => Or.inl ⟨fun z => g_f c1 z.1, rfl, by unfold erS; rw [if_neg (fun z => g_f c1 z.1)]⟩) (fun c1 => ?_))
  refine zcall_i (d' := d - 1) (by omega) (c_X9_isShelf (by omega) h b hb) ?_
  rintro _ _ ⟨rfl, rfl⟩
  refine And.intro g_in (And.intro (fun c2 => ?_) (fun c2 => Or.inl ⟨fun z => g_f c2 z.2.1, rfl, by unfold erS; rw [if_neg (fun z => g_f c2 z.2)]⟩))
  have q1 := g_t c1
  have q2 := g_t c2
  have a0 := q1.1
  have a1 : a < 6 := by omega
  have b0 := q2.1
  have b1 : b < 6 := by omega
  have S1 := hS a.toNat (by omega)
  have S2 := hS b.toNat (by omega)
  have er1 : (h.1 (8 + a.toNat) 0 = -1 ∨ h.1 (8 + b.toNat) 0 = -1) → ¬ okS h a i b j n ∧ erS h a b = -11 := fun c => ⟨fun z => by unfold okS at z; omega, by unfold erS; rw [if_pos ⟨q1, q2⟩, if_pos c]⟩
  have er2 : ¬ (h.1 (8 + a.toNat) 0 = -1 ∨ h.1 (8 + b.toNat) 0 = -1) → (h.1 (8 + a.toNat) 0 = 5 ∨ ¬ h.1 (8 + a.toNat) 0 = h.1 (8 + b.toNat) 0) → ¬ okS h a i b j n ∧ erS h a b = -12 := fun c c2 => ⟨fun z => by unfold okS at z; omega, by unfold erS; rw [if_pos ⟨q1, q2⟩, if_neg c, if_pos c2]⟩
  have er3 : ¬ (h.1 (8 + a.toNat) 0 = -1 ∨ h.1 (8 + b.toNat) 0 = -1) → ¬ (h.1 (8 + a.toNat) 0 = 5 ∨ ¬ h.1 (8 + a.toNat) 0 = h.1 (8 + b.toNat) 0) → erS h a b = -13 := fun c c2 => by unfold erS; rw [if_pos ⟨q1, q2⟩, if_neg c, if_neg c2]
  obtain ⟨fr0, hfr⟩ : ∃ x, x = h.1 (8 + a.toNat) 0 := ⟨_, rfl⟩
  obtain ⟨to0, hto⟩ : ∃ x, x = h.1 (8 + b.toNat) 0 := ⟨_, rfl⟩
  obtain ⟨A, hA⟩ : ∃ x, x = h.1 78 a.toNat := ⟨_, rfl⟩
  obtain ⟨B, hB⟩ : ∃ x, x = h.1 78 b.toNat := ⟨_, rfl⟩
  obtain ⟨LA, hLA⟩ : ∃ x, x = h.1 79 a.toNat := ⟨_, rfl⟩
  obtain ⟨LB, hLB⟩ : ∃ x, x = h.1 79 b.toNat := ⟨_, rfl⟩
  rw [← hfr, ← hto] at er1 er2 er3
  rw [← hfr, ← hA, ← hLA] at S1
  rw [← hto, ← hB, ← hLB] at S2
  have iA : inR (h.1 78 a.toNat) := by rw [← hA]; omega
  have iB : inR (h.1 78 b.toNat) := by rw [← hB]; omega
  refine And.intro a0 (And.intro a1 (And.intro iA (And.intro (fun c3 => ?_) (fun c3 => ?_))))
  · replace c3 : h.1 78 a.toNat < 0 := c3
    rw [← hA] at c3
    have := er1 (by omega)
    exact e11 this.1 this.2
  replace c3 : ¬ h.1 78 a.toNat < 0 := c3
  rw [← hA] at c3
  refine And.intro b0 (And.intro b1 (And.intro iB (And.intro (fun c4 => ?_) (fun c4 => ?_))))
  · replace c4 : 0 ≤ h.1 78 b.toNat := c4
    rw [← hB] at c4
    refine And.intro a0 (And.intro a1 (And.intro iA (And.intro (by decide) (And.intro (fun c5 => ?_) (fun c5 => ?_)))))
    · replace c5 : h.1 78 a.toNat < 50 := c5
      rw [← hA] at c5
      have := er2 (by omega) (by omega)
      exact e12 this.1 this.2
    · replace c5 : ¬ h.1 78 a.toNat < 50 := c5
      rw [← hA] at c5
      refine And.intro a0 (And.intro a1 (And.intro b0 (And.intro b1 (And.intro iA (And.intro iB (And.intro (fun c6 => ?_) (fun c6 => ?_)))))))
      · replace c6 : h.1 78 a.toNat = h.1 78 b.toNat := c6
        rw [← hA, ← hB] at c6
        have eqs : ¬ (fr0 = -1 ∨ to0 = -1) ∧ ¬ (fr0 = 5 ∨ ¬ fr0 = to0) ∧ LA = h.1 (8 + a.toNat) 3 ∧ LB = h.1 (8 + b.toNat) 3 ∧ (0 ≤ LA ∧ LA ≤ 60) ∧ 0 ≤ LB ∧ LB ≤ 60 := by omega
        obtain ⟨g1, g2, g3, g4, g5, g6⟩ := eqs
        have e13' := fun q => e13 q (er3 g1 g2)
        have iLA : inR (h.1 79 a.toNat - n) ∨ n < 0 := by rw [← hLA]; omega
        refine And.intro hn (And.intro (fun c7 => e13' (fun z => by unfold okS at z; omega)) (fun c7 => ?_))
        refine And.intro hi (And.intro (fun c8 => e13' (fun z => by unfold okS at z; omega)) (fun c8 => ?_))
        refine And.intro hj (And.intro (fun c9 => e13' (fun z => by unfold okS at z; omega)) (fun c9 => ?_))
        have iLA : inR (h.1 79 a.toNat - n) := by rw [← hLA]; omega
        have iLB : inR (h.1 79 b.toNat - n) := by rw [← hLB]; omega
        refine And.intro a0 (And.intro a1 (And.intro hi (And.intro iLA (And.intro (fun c10 => ?_) (fun c10 => ?_)))))
        · replace c10 : h.1 79 a.toNat - n < i := c10
          rw [← hLA] at c10
          exact e13' (fun z => by unfold okS at z; omega)
        · replace c10 : ¬ h.1 79 a.toNat - n < i := c10
          rw [← hLA] at c10
          refine And.intro b0 (And.intro b1 (And.intro hj (And.intro iLB (And.intro (fun c11 => ?_) (fun c11 => ?_)))))
          · replace c11 : j ≤ h.1 79 b.toNat - n := c11
            rw [← hLB] at c11
            exact zJ_le (loop1 ⟨q1, q2, by omega, by omega, by omega, by omega, by omega, by omega, by omega, by omega⟩ n.toNat 0 h (by omega) ⟨rfl, fun _ _ => rfl, fun x hx => absurd hx (by omega)⟩) (And.intro rfl (And.intro rfl (And.intro rfl (And.intro rfl (And.intro rfl (And.intro rfl (And.intro rfl trivial))))))) rfl rfl
          · replace c11 : ¬ j ≤ h.1 79 b.toNat - n := c11
            rw [← hLB] at c11
            exact e13' (fun z => by unfold okS at z; omega)
      · replace c6 : ¬ h.1 78 a.toNat = h.1 78 b.toNat := c6
        rw [← hA, ← hB] at c6
        have := er2 (by omega) (by omega)
        exact e12 this.1 this.2
  · replace c4 : ¬ 0 ≤ h.1 78 b.toNat := c4
    rw [← hB] at c4
    have := er1 (by omega)
    exact e11 this.1 this.2
theorem pr_shift {d : Nat} (hd : 6 ≤ d) {a i b j n : Int} (ha : inR a) (hi : inR i) (hb : inR b) (hj : inR j) (hn : inR n) : Pair2 d k_X8_shift k_X9_shift [sI a, sI i, sI b, sI j, sI n] := fun h hI => by
  have i9 := hI.1.2.2.2.2.2.2.2.2.1
  have i0 := Ishf0_of i9 hI.1.2.2.2.2.2.2.2.1.2.1.2
  refine zC_mono (c_X8_shift hd h a i b j n ha hi hb hj hn i0) ?_
  rintro o g (⟨q, rfl, rfl⟩ | ⟨q, rfl, rfl⟩)
  · refine ⟨_, rfl, zC_mono (c_X9_shift hd g a i b j n ha hi hb hj hn i0) ?_⟩
    rintro o g' (⟨z, rfl, rfl⟩ | ⟨z, -⟩)
    · exact ⟨rfl, hI⟩
    · exact absurd z q
  · refine ⟨_, rfl, zC_mono (c_X9_shift hd (cpL h (46 + a.toNat) i.toNat (46 + b.toNat) j.toNat n.toNat) a i b j n ha hi hb hj hn i0) ?_⟩
    rintro o g' (⟨z, -, -⟩ | ⟨z, z2, rfl⟩)
    · exact absurd q z
    · obtain ⟨o1, o2, o3, o4, o5, o6, o7, o8, o9, o10⟩ := q
      have L1 := ((Ishf_R i0 a.toNat (by omega)).2 o3 o4).2
      have L2 := ((Ishf_R i0 b.toNat (by omega)).2 (by omega) (by omega)).2
      obtain ⟨s1, s2, s3, s4⟩ := z2
      have k80 : (cpL h (46 + a.toNat) i.toNat (46 + b.toNat) j.toNat n.toNat).2 80 = h.2 80 := funext fun x => by
        show (if 80 = 46 + b.toNat then _ else h.2 80 x) = _
        rw [if_neg (by omega)]
      rw [k80] at s4
      refine ⟨rfl, Inv_shf hI (fun c _ => by rw [s1]; rfl) (fun k hk => ?_)⟩
      have f1 : ∀ c, g'.1 c = h.1 c := fun c => by rw [s1]; rfl
      rw [f1, f1, f1, f1, s2 _ (by omega) (by omega)]
      rcases i9 k hk with y | y | ⟨y1, y2, y3, y4, y5⟩
      · exact Or.inl y
      · exact Or.inr (Or.inl y)
      · refine Or.inr (Or.inr ⟨y1, y2, y3, y4, fun x hx => ?_⟩)
        rw [s4]
        show _ = if 46 + k = 46 + b.toNat then va_cpy (h.2 (46 + a.toNat)) (h.2 (46 + b.toNat)) i.toNat j.toNat n.toNat x else h.2 (46 + k) x
        by_cases e : k = b.toNat
        · rw [if_pos (by omega)]
          unfold va_cpy
          by_cases e2 : j.toNat ≤ x ∧ x < j.toNat + n.toNat
          · rw [if_pos (by omega), if_pos e2]
            rcases i9 a.toNat (by omega) with ⟨w, -⟩ | ⟨w, -⟩ | ⟨-, -, -, -, w⟩
            · exact absurd w o3
            · exact absurd w o4
            · rw [← w _ (by omega)]
              exact congrArg (h.2 80) (by omega)
          · rw [if_neg (by omega), if_neg e2, ← e]
            exact y5 x hx
        · rw [if_neg (by omega), if_neg (by omega)]
          exact y5 x hx
