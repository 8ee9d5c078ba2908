/-! ===== tide: a new tide comes in ===== -/
theorem tideF_c2 {pt pt' P P' Q Q' : Nat → Int} {t : Nat} {m : Int} (hok : TOK pt P Q t) (h1 : pt t = pt' t) (h2 : ∀ j, j < 12 → P (12 * t + j) = P' (12 * t + j)) (h3 : ∀ j, j < 12 → Q (12 * t + j) = Q' (12 * t + j)) : tideF pt P Q t m = tideF pt' P' Q' t m := by
  obtain ⟨hn, -, -⟩ := hok
  have hf : fstx (fun j => P (12 * t + j)) m (pt t).toNat 0 = fstx (fun j => P' (12 * t + j)) m (pt t).toNat 0 := fstx_c _ _ (fun j _ b => h2 _ (by omega))
  have hs := fstx_spec (fun j => P' (12 * t + j)) m (pt t).toNat 0
  unfold tideF
  rw [hf, ← h1]
  generalize fstx (fun j => P' (12 * t + j)) m (pt t).toNat 0 = r at hs ⊢
  by_cases c : r = 0
  · have := h3 0 (by omega)
    rw [if_pos c, if_pos c]
    exact this
  · rw [if_neg c, if_neg c]
    by_cases c2 : r = (pt t).toNat
    · rw [if_pos c2, if_pos c2, h3 _ (by omega)]
    · rw [if_neg c2, if_neg c2, h3 _ (by omega), h3 _ (by omega), h2 _ (by omega), h2 _ (by omega)]
theorem TOK_c2 {pt pt' P P' Q Q' : Nat → Int} {t : Nat} (hok : TOK pt P Q t) (h1 : pt t = pt' t) (h2 : ∀ j, j < 12 → P (12 * t + j) = P' (12 * t + j)) (h3 : ∀ j, j < 12 → Q (12 * t + j) = Q' (12 * t + j)) : TOK pt' P' Q' t := by
  obtain ⟨a, b, c⟩ := hok
  unfold TOK
  rw [← h1]
  refine ⟨a, fun k hk => ?_, fun k hk => ?_⟩
  · rw [← h2 _ (by omega), ← h3 _ (by omega)]
    exact b k hk
  · rw [← h2 _ (by omega), ← h2 _ (by omega)]
    exact c k hk
/-- the rows with one more tide -/
def tdRow (N P Q N' P' Q' : Nat → Int) (T : Nat) (l : List (Int × Int)) : Prop := (∀ i, N' i = if i = T then (l.length : Int) else N i) ∧ (∀ i, P' i = if 12 * T ≤ i ∧ i < 12 * T + l.length then (l.getD (i - 12 * T) (0, 0)).1 else P i) ∧ (∀ i, Q' i = if 12 * T ≤ i ∧ i < 12 * T + l.length then (l.getD (i - 12 * T) (0, 0)).2 else Q i)
theorem tdRow_old {N P Q N' P' Q' : Nat → Int} {T : Nat} {l : List (Int × Int)} (h : tdRow N P Q N' P' Q' T l) {t : Nat} (ht : t < T) : N t = N' t ∧ (∀ j, j < 12 → P (12 * t + j) = P' (12 * t + j)) ∧ (∀ j, j < 12 → Q (12 * t + j) = Q' (12 * t + j)) := by
  obtain ⟨a, b, c⟩ := h
  refine ⟨?_, fun j hj => ?_, fun j hj => ?_⟩
  · rw [a, if_neg (by omega)]
  · rw [b, if_neg (by omega)]
  · rw [c, if_neg (by omega)]
theorem tdRow_new {N P Q N' P' Q' : Nat → Int} {T : Nat} {l : List (Int × Int)} (h : tdRow N P Q N' P' Q' T l) (h1 : 1 ≤ l.length) (h2 : l.length ≤ 12) (hl : lsOK (-1) l) : TOK N' P' Q' T := by
  obtain ⟨a, b, c⟩ := h
  obtain ⟨l1, l2⟩ := hl
  have eN : N' T = l.length := by rw [a, if_pos rfl]
  have eP : ∀ k, k < l.length → P' (12 * T + k) = (l.getD k (0, 0)).1 := fun k hk => by
    rw [b, if_pos (by omega), show 12 * T + k - 12 * T = k by omega]
  have eQ : ∀ k, k < l.length → Q' (12 * T + k) = (l.getD k (0, 0)).2 := fun k hk => by
    rw [c, if_pos (by omega), show 12 * T + k - 12 * T = k by omega]
  unfold TOK
  rw [eN]
  refine ⟨by omega, fun k hk => ?_, fun k hk => ?_⟩
  · have := l1 k (by omega)
    rw [eP k (by omega), eQ k (by omega)]
    omega
  · have := l2 k (by omega)
    rw [eP k (by omega), eP (k + 1) (by omega)]
    exact this
/-- the class's tide -/
def tdC (h g : zH) (T : Nat) (l : List (Int × Int)) : Prop := (∀ c, c ≠ 1 → c ≠ 2 → c ≠ 17 → c ≠ 18 → c ≠ 19 → c ≠ 20 → c ≠ 21 → g.1 c = h.1 c) ∧ (∀ c, tpB c = false → g.2 c = h.2 c) ∧ g.1 1 1 = 0 ∧ (∀ i, i ≠ 0 → g.1 2 i = h.1 2 i) ∧ g.1 2 0 = T + 1 ∧ tdRow (h.1 19) (h.1 20) (h.1 21) (g.1 19) (g.1 20) (g.1 21) T l
def ftC (h g : zH) : Prop := (∀ c, c ≠ 1 → c ≠ 17 → c ≠ 18 → g.1 c = h.1 c) ∧ (∀ c, tpB c = false → g.2 c = h.2 c) ∧ g.1 1 1 = 0
theorem c_X2_addTide {d : Nat} (hd : 1 ≤ d) (h : zH) (T : Nat) (l : List (Int × Int)) (h0 : h.1 2 0 = T) (hT : T ≤ 9) (hl : l.length ≤ 12) (hr : ∀ i, i < l.length → h.1 17 i = (l.getD i (0, 0)).1 ∧ h.1 18 i = (l.getD i (0, 0)).2) :
    zC d k_X2_addTide [sR 2, sR 17, sR 18, sI l.length] h (fun o g => o = some (sI T) ∧ (∀ c, c ≠ 2 → c ≠ 19 → c ≠ 20 → c ≠ 21 → g.1 c = h.1 c) ∧ g.2 = h.2 ∧ (∀ i, i ≠ 0 → g.1 2 i = h.1 2 i) ∧ g.1 2 0 = T + 1 ∧ tdRow (h.1 19) (h.1 20) (h.1 21) (g.1 19) (g.1 20) (g.1 21) T l) := by
  refine zC_of (by decide +kernel) (Nat.le_of_ble_eq_true rfl) (fun X C E => zrun_sound t_X2_addTide C E [] 80 _ _ _ _ ?_)
  have a1 : 0 ≤ 12 * h.1 2 0 := by omega
  have a2 : (0 : Int) + (l.length : Int) ≤ ((12 : Nat) : Int) := by omega
  have a3 : 12 * h.1 2 0 + (l.length : Int) ≤ ((120 : Nat) : Int) := by omega
  refine And.intro hd (And.intro (by decide) (And.intro a1 (And.intro (Int.natCast_nonneg _) (And.intro a2 (And.intro a3 ?_)))))
  refine And.intro hd (And.intro (by decide) (And.intro a1 (And.intro (Int.natCast_nonneg _) (And.intro a2 (And.intro a3 ?_)))))
  have b1 : 0 ≤ h.1 2 0 := by omega
  have b2 : h.1 2 0 < 10 := by omega
  refine And.intro b1 (And.intro b2 ?_)
  have t12 : (12 * h.1 2 0).toNat = 12 * T := by omega
  have t0 : (h.1 2 0).toNat = T := by omega
  have tl : ((l.length : Int)).toNat = l.length := rfl
  refine And.intro (congrArg (fun v => some (sI v)) ?_) (And.intro (fun c c1 c2 c3 c4 => ?_) (And.intro rfl (And.intro (fun i hi => ?_) (And.intro ?_ ⟨fun i => ?_, fun i => ?_, fun i => ?_⟩))))
  · show h.1 2 0 + 1 - 1 = _
    omega
  · rw [setI_ne c1, setI_ne c2, cpI_ne c4, cpI_ne c3]
  · rw [setI_n2 hi, setI_ne (by omega), cpI_ne (by omega), cpI_ne (by omega)]
  · show h.1 2 0 + 1 = _
    omega
  · rw [setI_ne (by omega), setI_at, cpI_ne (by omega), cpI_ne (by omega)]
    by_cases e : i = T
    · rw [if_pos e]
      exact if_pos ⟨rfl, e.trans t0.symm⟩
    · rw [if_neg e]
      exact if_neg (fun y => e (y.2.trans t0))
  · rw [setI_ne (by omega), setI_ne (by omega), cpI_ne (by omega)]
    show (if 20 = 20 then va_cpy (h.1 17) (h.1 20) 0 (12 * h.1 2 0).toNat l.length i else h.1 20 i) = _
    rw [if_pos rfl, t12]
    unfold va_cpy
    by_cases e : 12 * T ≤ i ∧ i < 12 * T + l.length
    · rw [if_pos e, if_pos e, Nat.zero_add, (hr _ (by omega)).1]
    · rw [if_neg e, if_neg e]
  · rw [setI_ne (by omega), setI_ne (by omega)]
    show (if 21 = 21 then va_cpy (h.1 18) (h.1 21) 0 (12 * h.1 2 0).toNat l.length i else h.1 21 i) = _
    rw [if_pos rfl, t12]
    unfold va_cpy
    by_cases e : 12 * T ≤ i ∧ i < 12 * T + l.length
    · rw [if_pos e, if_pos e, Nat.zero_add, (hr _ (by omega)).2]
    · rw [if_neg e, if_neg e]
def tdA (h : zH) (B : Nat → Int) (L : Nat) (full fault : Prop) (good : Nat → List (Int × Int) → Prop) (r : Int) : Prop := (h.1 2 0 = 10 ∧ full ∧ r = -3) ∨ (h.1 2 0 < 10 ∧ (rdF B L 12 0 (-1)).1 ≠ -1 ∧ fault ∧ r = -100 - (rdF B L 12 0 (-1)).1) ∨ (h.1 2 0 < 10 ∧ (rdF B L 12 0 (-1)).1 = -1 ∧ good (h.1 2 0).toNat (rdF B L 12 0 (-1)).2 ∧ r = h.1 2 0)
theorem c_X8_tide {d : Nat} (hd : 6 ≤ d) (h : zH) (L : Nat) (h0 : 0 ≤ h.1 2 0 ∧ h.1 2 0 ≤ 10) (h1 : h.1 1 1 = L) (hL : L ≤ 120) (hB : ∀ i : Nat, i < 120 → 0 ≤ h.1 16 i ∧ h.1 16 i ≤ 255) :
    zC d k_X8_tide [sR 0] h (fun o g => ∃ r : Int, o = some (sI r) ∧ tdA h (h.1 16) L (g = h) (ftC h g) (tdC h g) r) := by
  have rl := rdF_len (h.1 16) L 12 0 (-1)
  have rr := rdF_r (h.1 16) L hL 12 0 (-1) (by omega)
  have rd := c_X7_read (d := d - 1) (by omega) h L h1 hL hB
  refine zC_of (by decide +kernel) (Nat.le_of_ble_eq_true rfl) (fun X C E => zrun_sound t_X8_tide C E [] 80 _ _ _ _ ?_)
  have i0 : inR (h.1 2 0) := by omega
  refine And.intro i0 (And.intro (by decide) (And.intro (fun z => ?_) (fun z => ?_)))
  · replace z : h.1 2 0 < 10 := z
    refine zcall_i (d' := d - 1) (by omega) rd ?_
    rintro o g ⟨hf, rfl, g4, gv⟩
    have gc : ∀ c, c ≠ 1 → c ≠ 17 → c ≠ 18 → g.1 c = h.1 c := fun c c1 c2 c3 => funext fun i => (hf c i (by simp [frT]; omega)).1
    have g2 : ∀ c, tpB c = false → g.2 c = h.2 c := fun c q => funext fun i => (hf c i (by simp [tpB] at q; simp [frT]; omega)).2
    refine And.intro (show inR (rdF (h.1 16) L 12 0 (-1)).1 by omega) (And.intro (fun z2 => ?_) (fun z2 => ?_))
    · have e1 : (rdF (h.1 16) L 12 0 (-1)).1 = -1 := by
        have : (rdF (h.1 16) L 12 0 (-1)).1 < 0 := z2
        omega
      have g20 : g.1 2 0 = ((h.1 2 0).toNat : Nat) := by rw [gc 2 (by omega) (by omega) (by omega)]; omega
      have ad := c_X2_addTide (d := d - 1) (by omega) (setI g 1 1 0) (h.1 2 0).toNat (rdF (h.1 16) L 12 0 (-1)).2 g20 (by omega) rl gv
      have e4 : (setI g 1 1 0).1 1 4 = ((rdF (h.1 16) L 12 0 (-1)).2.length : Nat) := g4
      refine zcall_i (d' := d - 1) (by omega) (zC_as (congrArg (fun v => [sR 2, sR 17, sR 18, sI v]) e4) ad) ?_
      rintro o g' ⟨rfl, w1, w2, w3, w4, w5⟩
      refine ⟨_, rfl, Or.inr (Or.inr ⟨z, e1, ⟨fun c c1 c2 c3 c4 c5 c6 c7 => ?_, fun c q => by rw [w2]; exact g2 c q, ?_, fun i hi => ?_, w4, ?_⟩, by omega⟩)⟩
      · rw [w1 c c2 c5 c6 c7, setI_ne c1, gc c c1 c3 c4]
      · rw [w1 1 (by omega) (by omega) (by omega) (by omega), setI_eq]
      · rw [w3 i hi, setI_ne (by omega), gc 2 (by omega) (by omega) (by omega)]
      · rw [setI_ne (by omega), setI_ne (by omega), setI_ne (by omega), gc 19 (by omega) (by omega) (by omega), gc 20 (by omega) (by omega) (by omega), gc 21 (by omega) (by omega) (by omega)] at w5
        exact w5
    · have e1 : (rdF (h.1 16) L 12 0 (-1)).1 ≠ -1 := by
        have : ¬ (rdF (h.1 16) L 12 0 (-1)).1 < 0 := z2
        omega
      refine ⟨_, rfl, Or.inr (Or.inl ⟨z, e1, ⟨fun c c1 c2 c3 => ?_, g2, rfl⟩, rfl⟩)⟩
      rw [setI_ne c1, gc c c1 c2 c3]
  · replace z : ¬ h.1 2 0 < 10 := z
    exact ⟨_, rfl, Or.inl ⟨by omega, rfl, rfl⟩⟩
