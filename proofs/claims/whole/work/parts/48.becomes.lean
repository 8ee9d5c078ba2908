/-! ===== what is told, the reference's side; safe, alter, sort ===== -/
def tldM (h g : zH) (k : Nat) (v : Int) : Prop := (∀ c, c ≠ 52 → c ≠ 53 → c ≠ 54 → c ≠ 55 → c ≠ 56 → g.1 c = h.1 c) ∧ g.2 = h.2 ∧ (∀ i, i ≠ 4 → i ≠ 5 → g.1 52 i = h.1 52 i) ∧ (∀ i, g.1 53 i = if i = k then v else h.1 53 i) ∧
  ∃ m s : Nat, ((h.1 52 5 = 40 ∧ m = 39 ∧ s = 1) ∨ (h.1 52 5 < 40 ∧ h.1 52 5 = m ∧ s = 0)) ∧ g.1 52 5 = m + 1 ∧ g.1 52 4 = m + 1 ∧ (∀ c i, c = 54 ∨ c = 55 ∨ c = 56 → i < m → g.1 c i = h.1 c (i + s)) ∧ g.1 54 m = k ∧ g.1 55 m = h.1 53 k ∧ g.1 56 m = v
def endM (h : zH) (m k : Nat) (a v : Int) : zH := setI (setI (setI (setI (setI (setI h 54 m k) 55 m a) 56 m v) 52 5 ((m : Int) + 1)) 52 4 ((m : Int) + 1)) 53 k v
/-- the rows moved down as far as kk -/
def shM (h H : zH) (kk : Nat) : Prop := (∀ c, c ≠ 54 → c ≠ 55 → c ≠ 56 → H.1 c = h.1 c) ∧ H.2 = h.2 ∧ ∀ c i, c = 54 ∨ c = 55 ∨ c = 56 → H.1 c i = if i + 1 < kk then h.1 c (i + 1) else h.1 c i
theorem shM_s {h H : zH} {kk : Nat} (hs : shM h H kk) (hk : 1 ≤ kk) : shM h (setI (setI (setI H 54 (kk - 1) (H.1 54 kk)) 55 (kk - 1) (H.1 55 kk)) 56 (kk - 1) (H.1 56 kk)) (kk + 1) := by
  obtain ⟨a, b, c⟩ := hs
  have at' : ∀ c' i, c' = 54 ∨ c' = 55 ∨ c' = 56 → (setI (setI (setI H 54 (kk - 1) (H.1 54 kk)) 55 (kk - 1) (H.1 55 kk)) 56 (kk - 1) (H.1 56 kk)).1 c' i = if i = kk - 1 then H.1 c' kk else H.1 c' i := by
    intro c' i hc
    rcases hc with rfl | rfl | rfl
    · rw [setI_ne (by omega), setI_ne (by omega), setI_at]
      by_cases q : i = kk - 1
      · rw [if_pos ⟨rfl, q⟩, if_pos q]
      · rw [if_neg (fun z => q z.2), if_neg q]
    · rw [setI_ne (by omega), setI_at, setI_ne (by omega)]
      by_cases q : i = kk - 1
      · rw [if_pos ⟨rfl, q⟩, if_pos q]
      · rw [if_neg (fun z => q z.2), if_neg q]
    · rw [setI_at, setI_ne (by omega), setI_ne (by omega)]
      by_cases q : i = kk - 1
      · rw [if_pos ⟨rfl, q⟩, if_pos q]
      · rw [if_neg (fun z => q z.2), if_neg q]
  refine ⟨fun c' q1 q2 q3 => by rw [setI_ne q3, setI_ne q2, setI_ne q1, a c' q1 q2 q3], b, fun c' i hc => ?_⟩
  rw [at' c' i hc, c c' kk hc, c c' i hc, if_neg (by omega : ¬ kk + 1 < kk)]
  by_cases q : i = kk - 1
  · rw [if_pos q, if_pos (by omega), show kk = i + 1 by omega]
  · rw [if_neg q]
    by_cases q2 : i + 1 < kk
    · rw [if_pos q2, if_pos (by omega)]
    · rw [if_neg q2, if_neg (by omega)]
theorem tldM_fin {h H : zH} {k m s : Nat} {v : Int} (e : ∀ c, c ≠ 54 → c ≠ 55 → c ≠ 56 → c ≠ 52 → H.1 c = h.1 c) (e2 : H.2 = h.2) (e52 : ∀ i, i ≠ 5 → H.1 52 i = h.1 52 i) (hm : (h.1 52 5 = 40 ∧ m = 39 ∧ s = 1) ∨ (h.1 52 5 < 40 ∧ h.1 52 5 = m ∧ s = 0)) (hs : ∀ c i, c = 54 ∨ c = 55 ∨ c = 56 → i < m → H.1 c i = h.1 c (i + s)) : tldM h (endM H m k (h.1 53 k) v) k v := by
  unfold endM
  refine ⟨fun c a1 a2 a3 a4 a5 => ?_, e2, fun i a1 a2 => ?_, fun i => ?_, m, s, hm, ?_, ?_, fun c i hc hi => ?_, ?_, ?_, ?_⟩
  · rw [setI_ne a2, setI_ne a1, setI_ne a1, setI_ne a5, setI_ne a4, setI_ne a3, e c a3 a4 a5 a1]
  · rw [setI_ne (by omega), setI_n2 a1, setI_n2 a2, setI_ne (by omega), setI_ne (by omega), setI_ne (by omega), e52 i a2]
  · rw [setI_at, setI_ne (by omega), setI_ne (by omega), setI_ne (by omega), setI_ne (by omega), setI_ne (by omega), e 53 (by omega) (by omega) (by omega) (by omega)]
    by_cases q : i = k
    · rw [if_pos ⟨rfl, q⟩, if_pos q]
    · rw [if_neg (fun z => q z.2), if_neg q]
  · rw [setI_ne (by omega), setI_n2 (by omega), setI_eq]
  · rw [setI_ne (by omega), setI_eq]
  · rw [← hs c i hc hi, setI_ne (by omega), setI_ne (by omega), setI_ne (by omega)]
    rcases hc with rfl | rfl | rfl
    · rw [setI_ne (by omega), setI_ne (by omega), setI_n2 (by omega)]
    · rw [setI_ne (by omega), setI_n2 (by omega), setI_ne (by omega)]
    · rw [setI_n2 (by omega), setI_ne (by omega), setI_ne (by omega)]
  · rw [setI_ne (by omega), setI_ne (by omega), setI_ne (by omega), setI_ne (by omega), setI_ne (by omega), setI_eq]
  · rw [setI_ne (by omega), setI_ne (by omega), setI_ne (by omega), setI_ne (by omega), setI_eq]
  · rw [setI_ne (by omega), setI_ne (by omega), setI_ne (by omega), setI_eq]
def becR (h g : zH) (k : Nat) (v : Int) (x : Option zV) : Prop := (h.1 53 k = v ∧ g = h ∧ x = some (sI v)) ∨ (¬ h.1 53 k = v ∧ tldM h g k v ∧ x = some (sI (h.1 53 k)))
def tellR (h g : zH) (w : Int) (rc j : Nat) (v : Int) (x : Option zV) : Prop := (h.1 rc j = v ∧ g = h ∧ x = some (sI v)) ∨ (¬ h.1 rc j = v ∧ tldC h g w rc j v ∧ x = some (sI (h.1 rc j)))
set_option maxHeartbeats 4000000 in
theorem c_X9_becomes {d : Nat} (h : zH) (k : Nat) (v : Int) (hk : k < 88) (hv : inR v) (hold : inR (h.1 53 k)) (hn : 0 ≤ h.1 52 5 ∧ h.1 52 5 ≤ 40) : zC d k_X9_becomes [sR 52, sI k, sI v] h (fun x g => becR h g k v x) := by
  have k0 : (0 : Int) ≤ (k : Int) := by omega
  have k1 : (k : Int) < 88 := by omega
  refine zC_of (by decide +kernel) (Nat.le_of_ble_eq_true rfl) (fun X C E => ?_)
  have rest : ∀ (H : zH) (m : Nat), H.1 52 5 = m → m < 40 → ¬ h.1 53 k = v → tldM h (endM H m k (h.1 53 k) v) k v → zJ X 97 [some (sR 52), some (sI k), some (sI v), some (sI (h.1 53 k))] [] H := by
    intro H m hm h40 hne ht
    have q1 : 0 ≤ H.1 52 5 := by omega
    have q2 : H.1 52 5 < 40 := by omega
    refine zrun_sound t_X9_becomes C E [] 80 _ _ _ _ ?_
    refine And.intro q1 (And.intro q2 (And.intro q1 (And.intro q2 (And.intro q1 (And.intro q2 (And.intro k0 (And.intro k1 ?_)))))))
    refine Or.inr ⟨hne, ?_, rfl⟩
    have e : setI (setI (setI (setI (setI (setI H 54 (H.1 52 5).toNat k) 55 (H.1 52 5).toNat (h.1 53 k)) 56 (H.1 52 5).toNat v) 52 5 (H.1 52 5 + 1)) 52 4 (H.1 52 5 + 1)) 53 k v = endM H m k (h.1 53 k) v := by
      rw [hm]
      rfl
    rw [← e] at ht
    exact ht
  have loop : h.1 52 5 = 40 → ¬ h.1 53 k = v → ∀ (n kk : Nat) (H : zH), kk + n = 40 → 1 ≤ kk → shM h H kk → zJ X 26 [some (sR 52), some (sI k), some (sI v), some (sI (h.1 53 k)), some (sI kk)] [] H := by
    intro h40 hne n
    induction n with
    | zero =>
      intro kk H hkn hk1 hs
      have hkk : kk = 40 := by omega
      subst hkk
      refine zrun_sound t_X9_becomes C E [97] 80 _ _ _ _ ?_
      refine And.intro (by omega) (And.intro (by omega) (And.intro (fun c => ?_) (fun c => absurd (by omega) c)))
      obtain ⟨a, b, c⟩ := hs
      have e5 : H.1 52 5 = 40 := by rw [a 52 (by omega) (by omega) (by omega)]; exact h40
      refine zJ_le (rest (setI H 52 5 (H.1 52 5 - 1)) 39 (by rw [setI_eq, e5]; rfl) (by omega) hne (tldM_fin (s := 1) (fun c' a1 a2 a3 a4 => by rw [setI_ne a4, a c' a1 a2 a3]) b (fun i hi => by rw [setI_n2 hi, a 52 (by omega) (by omega) (by omega)]) (Or.inl ⟨h40, rfl, rfl⟩) (fun c' i hc hi => by rw [setI_ne (by omega), c c' i hc, if_pos (by omega)]))) (And.intro rfl (And.intro rfl (And.intro rfl (And.intro rfl trivial)))) rfl rfl
    | succ n ih =>
      intro kk H hkn hk1 hs
      have b0 : (0 : Int) ≤ (kk : Int) := by omega
      have b1 : (kk : Int) < 40 := by omega
      have b2 : (0 : Int) ≤ (kk : Int) - 1 := by omega
      have b3 : (kk : Int) - 1 < 40 := by omega
      have tn : ((kk : Int) - 1).toNat = kk - 1 := by omega
      have fin := ih (kk + 1) _ (by omega) (by omega) (shM_s hs hk1)
      refine zrun_sound t_X9_becomes C E [26] 80 _ _ _ _ ?_
      refine And.intro (by omega) (And.intro (by omega) (And.intro (fun c => absurd c (by omega)) (fun c => ?_)))
      refine And.intro b0 (And.intro b1 (And.intro b2 (And.intro b3 (And.intro b0 (And.intro b1 (And.intro b2 (And.intro b3 (And.intro b0 (And.intro b1 (And.intro b2 (And.intro b3 ?_)))))))))))
      refine zJ_le fin (And.intro rfl (And.intro rfl (And.intro rfl (And.intro rfl (And.intro rfl trivial))))) rfl ?_
      rw [← tn]
      rfl
  refine zrun_sound t_X9_becomes C E [26, 97] 80 _ _ _ _ ?_
  refine And.intro k0 (And.intro k1 (And.intro hold (And.intro hv (And.intro (fun c => ?_) (fun c => Or.inl ⟨c, rfl, congrArg (fun z => some (sI z)) c⟩)))))
  replace c : ¬ h.1 53 k = v := c
  refine And.intro (by omega) (And.intro (by omega) (And.intro (fun c2 => ?_) (fun c2 => ?_)))
  · refine zJ_le (rest h (h.1 52 5).toNat (by omega) (by omega) c (tldM_fin (s := 0) (fun c' _ _ _ _ => rfl) rfl (fun i _ => rfl) (Or.inr ⟨by omega, by omega, rfl⟩) (fun c' i _ _ => rfl))) (And.intro rfl (And.intro rfl (And.intro rfl (And.intro rfl trivial)))) rfl rfl
  · exact zJ_le (loop c2 c 39 1 h (by omega) (by omega) ⟨fun _ _ _ _ => rfl, rfl, fun c' i _ => by rw [if_neg (by omega)]⟩) (And.intro rfl (And.intro rfl (And.intro rfl (And.intro rfl (And.intro rfl trivial))))) rfl rfl
theorem row_eq {h : zH} {w : Int} {rc o j : Nat} (hE : Ieq h) (hr : rowOK w rc o j) : h.1 53 (o + j) = h.1 rc j := by
  obtain ⟨-, -, -, -, e4, e5, e6⟩ := hE
  unfold rowOK at hr
  rcases hr with ⟨-, rfl, rfl, q⟩ | ⟨-, rfl, rfl, q⟩ | ⟨-, rfl, rfl, q⟩ | ⟨-, rfl, rfl, q⟩ | ⟨-, rfl, rfl, q⟩
  · exact (e5 j q).2.2.2.1
  · exact (e5 j q).2.2.2.2.1
  · exact (e5 j q).2.2.2.2.2
  · rw [Nat.zero_add]; exact e4 j q
  · exact e6 j q
theorem row_in {h : zH} {w : Int} {rc o j : Nat} (hV : VV h) (hr : rowOK w rc o j) : inW w (h.1 rc j) := by
  obtain ⟨-, -, -, v4, -, v6, v7⟩ := hV
  unfold rowOK at hr
  unfold inW
  rcases hr with ⟨rfl, rfl, rfl, q⟩ | ⟨rfl, rfl, rfl, q⟩ | ⟨rfl, rfl, rfl, q⟩ | ⟨rfl, rfl, rfl, q⟩ | ⟨rfl, rfl, rfl, q⟩
  · rw [if_neg (by decide), if_neg (by decide)]; exact (v6 j q).1
  · rw [if_pos (by decide)]; exact (v6 j q).2.1
  · rw [if_pos (by decide)]; exact (v6 j q).2.2
  · rw [if_neg (by decide), if_neg (by decide)]; exact v4 j q
  · rw [if_neg (by decide), if_pos (by decide)]; exact v7 j q
theorem inW_R {w v : Int} (h : inW w v) : inR v := by
  unfold inW at h
  split at h
  · omega
  · split at h <;> omega
theorem rowOK_b {w : Int} {rc o j : Nat} (hr : rowOK w rc o j) : (0 ≤ w ∧ w ≤ 4) ∧ (0 ≤ (j : Int) ∧ (j : Int) < numW w) ∧ offW w = o ∧ o + j < 88 ∧ (rc = 25 ∨ rc = 29 ∨ rc = 30 ∨ rc = 31 ∨ rc = 32) := by
  unfold rowOK at hr
  unfold numW offW
  rcases hr with ⟨rfl, rfl, rfl, q⟩ | ⟨rfl, rfl, rfl, q⟩ | ⟨rfl, rfl, rfl, q⟩ | ⟨rfl, rfl, rfl, q⟩ | ⟨rfl, rfl, rfl, q⟩
  · exact ⟨by decide, by rw [if_neg (by decide), if_neg (by decide)]; omega, by decide, by omega, by omega⟩
  · exact ⟨by decide, by rw [if_neg (by decide), if_neg (by decide)]; omega, by decide, by omega, by omega⟩
  · exact ⟨by decide, by rw [if_neg (by decide), if_neg (by decide)]; omega, by decide, by omega, by omega⟩
  · exact ⟨by decide, by rw [if_pos (by decide)]; omega, by decide, by omega, by omega⟩
  · exact ⟨by decide, by rw [if_neg (by decide), if_pos (by decide)]; omega, by decide, by omega, by omega⟩
set_option maxHeartbeats 1000000 in
theorem Inv_tell {h g g' : zH} {w v : Int} {rc o j : Nat} (hI : Inv2 h) (hr : rowOK w rc o j) (hv : inW w v) (hC : tldC h g w rc j v) (hM : tldM g g' (o + j) v) : Inv2 g' := by
  obtain ⟨r1, r2, r3, r4, r5⟩ := rowOK_b hr
  have hold := row_in hI.1.1 hr
  have heq := row_eq hI.1.2.1 hr
  obtain ⟨c1, c2, ⟨c3, c4, c5⟩, c6⟩ := hI.1.2.2.2.2.2.1
  obtain ⟨a1, a2, a3, m, s, a4, a5, a6, a7, a8, a9, a10, a11⟩ := hC
  obtain ⟨b1, b2, b3, b4, m', s', b5, b6, b7, b8, b9, b10, b11⟩ := hM
  have g52 := a1 52 (by omega) (by omega) (by omega) (by omega) (by omega) (by omega)
  have g53 := a1 53 (by omega) (by omega) (by omega) (by omega) (by omega) (by omega)
  have g54 := a1 54 (by omega) (by omega) (by omega) (by omega) (by omega) (by omega)
  have g55 := a1 55 (by omega) (by omega) (by omega) (by omega) (by omega) (by omega)
  have g56 := a1 56 (by omega) (by omega) (by omega) (by omega) (by omega) (by omega)
  rw [g52, c1] at b5
  have hms : m' = m ∧ s' = s := by omega
  obtain ⟨rfl, rfl⟩ := hms
  have k6 := b1 6 (by omega) (by omega) (by omega) (by omega) (by omega)
  have k40 := b1 40 (by omega) (by omega) (by omega) (by omega) (by omega)
  have k41 := b1 41 (by omega) (by omega) (by omega) (by omega) (by omega)
  have k42 := b1 42 (by omega) (by omega) (by omega) (by omega) (by omega)
  have k43 := b1 43 (by omega) (by omega) (by omega) (by omega) (by omega)
  refine Inv_row (rc := rc) (o := o) (j := j) (v := v) hI hr hv (fun c q => ?_) (b2.trans a2) (fun i q1 q2 => ?_) (fun c i q => ?_) (fun i => ?_) ⟨?_, ?_, ⟨?_, ?_, ?_⟩, fun i hi => ?_⟩
  · simp [chgB] at q
    rw [b1 c (by omega) (by omega) (by omega) (by omega) (by omega), a1 c (by omega) (by omega) (by omega) (by omega) (by omega) (by omega)]
  · rw [b3 i q1 q2, g52]
  · rw [b1 c (by omega) (by omega) (by omega) (by omega) (by omega)]
    by_cases e : c = rc
    · subst e
      rw [a3 i]
      by_cases e2 : i = j
      · rw [if_pos e2, if_pos ⟨rfl, e2⟩]
      · rw [if_neg e2, if_neg (fun z => e2 z.2)]
    · rw [a1 c (by omega) (by omega) (by omega) (by omega) (by omega) e, if_neg (fun z => e z.1)]
  · rw [b4 i, g53]
  · rw [b6, k6, a5]
  · rw [b7, k6, a6]
  · rw [k6, a5]; omega
  · rw [k6, a5, a6]; omega
  · rw [k6, a6]; omega
  · rw [k6, a6] at hi
    by_cases e : i = m'
    · subst e
      rw [k40, k41, k42, k43, a8, a9, a10, a11, b9, b10, b11, g53, heq, r3]
      exact ⟨r1, r2, by omega, rfl, rfl, hold, hv⟩
    · have him : i < m' := by omega
      rw [k40, k41, k42, k43, a7 40 i (by omega) him, a7 41 i (by omega) him, a7 42 i (by omega) him, a7 43 i (by omega) him, b8 54 i (by omega) him, b8 55 i (by omega) him, b8 56 i (by omega) him, g54, g55, g56]
      exact c6 (i + s') (by omega)
/-- both sides told the same -/
theorem tell_fin {h g : zH} {w v : Int} {rc o j : Nat} {x : Option zV} (hI : Inv2 h) (hr : rowOK w rc o j) (hv : inW w v) (hT : tellR h g w rc j v x) : (∃ r : Int, x = some (sI r)) ∧ (∀ x' g', becR g g' (o + j) v x' → x' = x ∧ Inv2 g') ∧ g.1 52 = h.1 52 ∧ g.1 53 = h.1 53 := by
  have heq := row_eq hI.1.2.1 hr
  obtain ⟨-, -, -, -, r5⟩ := rowOK_b hr
  rcases hT with ⟨t1, rfl, rfl⟩ | ⟨t1, t2, rfl⟩
  · refine ⟨⟨_, rfl⟩, ?_, rfl, rfl⟩
    rintro x' g' (⟨z1, rfl, rfl⟩ | ⟨z1, z2, rfl⟩)
    · exact ⟨rfl, hI⟩
    · exact absurd (heq.trans t1) z1
  · have g52 := t2.1 52 (by omega) (by omega) (by omega) (by omega) (by omega) (by omega)
    have g53 := t2.1 53 (by omega) (by omega) (by omega) (by omega) (by omega) (by omega)
    refine ⟨⟨_, rfl⟩, ?_, g52, g53⟩
    rintro x' g' (⟨z1, rfl, rfl⟩ | ⟨z1, z2, rfl⟩)
    · rw [g53] at z1
      exact absurd (heq.symm.trans z1) t1
    · exact ⟨by rw [g53, heq], Inv_tell hI hr hv t2 z2⟩
