/-! ===== the plan is walked ===== -/
def mvOK (R : Nat → Nat → Int) (σ : Nat) (hi : Nat → Int) (v : Int) (p m y : Nat) : Prop := (v ≤ 100 → (R 26 v.toNat = p ∨ R 27 v.toNat = p) ∧ goP (R 30 v.toNat) (R 31 v.toNat) (takeF (R 28 v.toNat) (R 32 σ) y) hi (R 29 v.toNat) m) ∧ (100 < v → ∀ k : Nat, (k : Int) < v - 100 → wtP hi (R 25 p) (m + k))
def nxP (R : Nat → Nat → Int) (v : Int) (p : Nat) : Nat := if v ≤ 100 then (if R 26 v.toNat = p then (R 27 v.toNat).toNat else (R 26 v.toNat).toNat) else p
def nxM (R : Nat → Nat → Int) (σ : Nat) (v : Int) (m y : Nat) : Nat := if v ≤ 100 then m + (takeF (R 28 v.toNat) (R 32 σ) y).toNat else m + (v - 100).toNat
def nxY (v : Int) (y : Nat) : Nat := if v ≤ 100 then min (y + 1) 3 else y
def wkS (R : Nat → Nat → Int) (σ p0 m0 : Nat) : Nat → Nat × Nat × Nat
  | 0 => (p0, m0, 0)
  | i + 1 => (nxP R (R 39 i) (wkS R σ p0 m0 i).1, nxM R σ (R 39 i) (wkS R σ p0 m0 i).2.1 (wkS R σ p0 m0 i).2.2, nxY (R 39 i) (wkS R σ p0 m0 i).2.2)
def okN (R : Nat → Nat → Int) (σ : Nat) (hi : Nat → Int) (p0 m0 k : Nat) : Prop := ∀ j : Nat, j < k → mvOK R σ hi (R 39 j) (wkS R σ p0 m0 j).1 (wkS R σ p0 m0 j).2.1 (wkS R σ p0 m0 j).2.2
def walkR (R : Nat → Nat → Int) (σ : Nat) (hi : Nat → Int) (p0 m0 n : Nat) (r : Int) (k : Nat) : Prop := okN R σ hi p0 m0 k ∧ ((r = -2 ∧ k = n) ∨ (r = k ∧ k < n ∧ ¬ mvOK R σ hi (R 39 k) (wkS R σ p0 m0 k).1 (wkS R σ p0 m0 k).2.1 (wkS R σ p0 m0 k).2.2))
theorem walkR_u {R : Nat → Nat → Int} {σ : Nat} {hi : Nat → Int} {p0 m0 n k k' : Nat} {r r' : Int} (x : walkR R σ hi p0 m0 n r k) (y : walkR R σ hi p0 m0 n r' k') : r = r' ∧ k = k' := by
  obtain ⟨x1, x2⟩ := x
  obtain ⟨y1, y2⟩ := y
  rcases x2 with ⟨x2, x3⟩ | ⟨x2, x3, x4⟩ <;> rcases y2 with ⟨y2, y3⟩ | ⟨y2, y3, y4⟩
  · omega
  · exact absurd (x1 k' (by omega)) y4
  · exact absurd (y1 k (by omega)) x4
  · rcases (by omega : k < k' ∨ k' < k ∨ k = k') with q | q | q
    · exact absurd (y1 k q) x4
    · exact absurd (x1 k' q) y4
    · exact ⟨by omega, q⟩
/-- the rows that a walk is told by: N ways between P places, a plan of n moves -/
def WR (R : Nat → Nat → Int) (σ P N n : Nat) : Prop := P ≤ 12 ∧ N ≤ 24 ∧ σ < 4 ∧ n ≤ 12 ∧ (∀ w : Nat, w < N → (0 ≤ R 26 w ∧ R 26 w < P) ∧ (0 ≤ R 27 w ∧ R 27 w < P) ∧ R 26 w ≠ R 27 w ∧ (1 ≤ R 28 w ∧ R 28 w ≤ 90)) ∧ (50 ≤ R 32 σ ∧ R 32 σ ≤ 400) ∧ (∀ w : Nat, w < 24 → (0 ≤ R 29 w ∧ R 29 w ≤ 999) ∧ (0 ≤ R 30 w ∧ R 30 w ≤ 1439) ∧ (0 ≤ R 31 w ∧ R 31 w ≤ 1439)) ∧ (∀ p : Nat, p < 12 → 0 ≤ R 25 p ∧ R 25 p ≤ 999) ∧ ∀ i : Nat, i < n → (0 ≤ R 39 i ∧ R 39 i < N) ∨ (101 ≤ R 39 i ∧ R 39 i ≤ 340)
theorem WR_of {h : zH} {σ : Nat} (hV : VV h) (hP : Iplan h) (hσ : σ < 4) : WR h.1 σ (h.1 2 8).toNat (h.1 2 10).toNat (h.1 5 3).toNat := by
  obtain ⟨⟨hv1, hv2, hv3, hv4, hv5⟩, hVt, hVw, hVp, hVy, hVh, hVs⟩ := hV
  obtain ⟨p1, p2, p3⟩ := hP
  refine ⟨by omega, by omega, hσ, by omega, fun w hw => ?_, hVs σ hσ, hVh, hVp, fun i hi => ?_⟩
  · have := hVy w (by omega)
    omega
  · have := (p3 i (by omega)).2
    omega
theorem mv_in {R : Nat → Nat → Int} {σ P N n : Nat} {hi : Nat → Int} {i p m y : Nat} (hR : WR R σ P N n) (hi' : i < n) (hp : p < P) (hm : m < 1440) (hy : y ≤ 3) (hok : mvOK R σ hi (R 39 i) p m y) : nxP R (R 39 i) p < P ∧ nxM R σ (R 39 i) m y < 1440 ∧ nxY (R 39 i) y ≤ 3 := by
  obtain ⟨r1, r2, r3, r4, r5, r6, r7, r8, r9⟩ := hR
  have hv := r9 i hi'
  unfold nxP nxM nxY
  by_cases c : R 39 i ≤ 100
  · rw [if_pos c, if_pos c, if_pos c]
    obtain ⟨-, g1, g2, g3⟩ := hok.1 c
    have e := r5 (R 39 i).toNat (by omega)
    have tb := (takeF_b (y := (y : Int)) e.2.2.2 r6 (by omega)).2
    refine ⟨?_, by omega, by omega⟩
    split <;> omega
  · rw [if_neg c, if_neg c, if_neg c]
    have w := hok.2 (by omega) ((R 39 i - 100).toNat - 1) (by omega)
    have w1 := w.1
    exact ⟨hp, by omega, hy⟩
theorem wk_in {R : Nat → Nat → Int} {σ P N n : Nat} {hi : Nat → Int} {p0 m0 : Nat} (hR : WR R σ P N n) (hp : p0 < P) (hm : m0 < 1440) : ∀ k : Nat, k ≤ n → okN R σ hi p0 m0 k → (wkS R σ p0 m0 k).1 < P ∧ (wkS R σ p0 m0 k).2.1 < 1440 ∧ (wkS R σ p0 m0 k).2.2 ≤ 3
  | 0, _, _ => ⟨hp, hm, Nat.zero_le _⟩
  | k + 1, hk, hok => by
    obtain ⟨a, b, c⟩ := wk_in hR hp hm k (by omega) (fun j hj => hok j (by omega))
    exact mv_in hR (by omega) a b c (hok k (by omega))
theorem zC_as {d : Nat} {k : zM} {As Bs : List zV} {h : zH} {Q : zQ} (e : As = Bs) (hC : zC d k Bs h Q) : zC d k As h Q := by
  subst e
  exact hC
theorem tnat (n : Nat) : ((n : Int)).toNat = n := rfl
/-! the class -/
/-- the class's heap while it walks: its rows are R, the sea hi, the walker at p m y -/
def WC (R : Nat → Nat → Int) (hi : Nat → Int) (g : zH) (p m y : Nat) : Prop := (∀ c, (25 ≤ c ∧ c ≤ 32) ∨ c = 39 → g.1 c = R c) ∧ (∀ j : Nat, j < 1440 → g.1 34 j = hi j) ∧ g.1 5 4 = p ∧ g.1 5 5 = m ∧ g.1 5 6 = y
abbrev fr5 : Nat → Nat → Bool := fun c i => c == 5 && (i == 4 || i == 5 || i == 6)
theorem c_X3_stay {d : Nat} (hd : 2 ≤ d) (g : zH) (R : Nat → Nat → Int) (hi : Nat → Int) (p m y : Nat) (v : Int) (hW : WC R hi g p m y) (hp : p < 12) (hm : m < 1440) (hv : 101 ≤ v ∧ v ≤ 340) (hsf : 0 ≤ R 25 p ∧ R 25 p ≤ 999) (hb : ∀ j : Nat, j < 1440 → inR (hi j)) :
    zC d k_X3_stay [sR 5, sI (v - 100)] g (fun o g2 => ((∀ k : Nat, (k : Int) < v - 100 → wtP hi (R 25 p) (m + k)) ∧ o = some (sI 1) ∧ g2 = setI g 5 5 ((m + (v - 100).toNat : Nat) : Int)) ∨ (¬ (∀ k : Nat, (k : Int) < v - 100 → wtP hi (R 25 p) (m + k)) ∧ o = some (sI 0) ∧ g2 = g)) := by
  obtain ⟨hr, h34, e4, e5, e6⟩ := hW
  have e25 := hr 25 (by omega)
  have fa := c_X4_firstAbove (d := d - 1) g (R 25 p) m (by omega) (by omega) (fun j hj => by rw [h34 j hj]; exact hb j hj)
  refine zC_of (by decide +kernel) (Nat.le_of_ble_eq_true rfl) (fun X C E => zrun_sound t_X3_stay C E [] 60 _ _ _ _ ?_)
  refine And.intro (by omega) (And.intro (by omega) ?_)
  refine zcall_i (d' := d - 1) (by omega) (zC_as (by simp only [e4, e5, e25, tnat]) fa) ?_
  rintro o g2 ⟨rfl, r, rfl, r1, r2, r3, r4⟩
  refine And.intro (by omega) (And.intro (show inR (g.1 5 5 + (v - 100)) by omega) (And.intro (fun z => ?_) (fun z => ?_)))
  · replace z : g.1 5 5 + (v - 100) < (r : Int) := z
    refine And.intro (Or.inr rfl) (Or.inl ⟨fun k hk => ⟨by omega, ?_, ?_⟩, rfl, ?_⟩)
    · rw [← h34 (m + k) (by omega)]
      exact r3 (m + k) (by omega) (by omega)
    · rw [← h34 (m + k + 1) (by omega)]
      exact r3 (m + k + 1) (by omega) (by omega)
    · show setI g 5 5 (g.1 5 5 + (v - 100)) = _
      rw [e5, show (m : Int) + (v - 100) = ((m + (v - 100).toNat : Nat) : Int) by omega]
  · replace z : ¬ g.1 5 5 + (v - 100) < (r : Int) := z
    refine And.intro (Or.inl rfl) (Or.inr ⟨fun q => ?_, rfl, rfl⟩)
    by_cases hr14 : r < 1440
    · have r5 := r4 hr14
      rw [h34 r hr14] at r5
      by_cases e : r = m
      · have := (q 0 (by omega)).2.1
        rw [Nat.add_zero, ← e] at this
        omega
      · have := (q (r - m - 1) (by omega)).2.2
        rw [show m + (r - m - 1) + 1 = r by omega] at this
        omega
    · have := (q ((v - 100).toNat - 1) (by omega)).1
      omega
theorem c_X3_leadsOn {d : Nat} (g : zH) (R : Nat → Nat → Int) (hi : Nat → Int) (p m y w : Nat) (hW : WC R hi g p m y) (hp : p < 12) (hw : w < 24) (h26 : inR (R 26 w)) (h27 : inR (R 27 w)) :
    zC d k_X3_leadsOn [sR 5, sI w] g (fun o g2 => g = g2 ∧ isB o (R 26 w = p ∨ R 27 w = p)) := by
  obtain ⟨hr, h34, e4, e5, e6⟩ := hW
  have e26 := hr 26 (by omega)
  have e27 := hr 27 (by omega)
  have ew : ((w : Int)).toNat = w := rfl
  refine zC_of (by decide +kernel) (Nat.le_of_ble_eq_true rfl) (fun X C E => zrun_sound t_X3_leadsOn C E [] 60 _ _ _ _ ?_)
  refine And.intro (by omega) (And.intro (by omega) ?_)
  refine And.intro (show inR (g.1 26 w) by rw [e26]; exact h26) (And.intro (show inR (g.1 5 4) by omega) (And.intro (fun z => ?_) (fun z => ?_)))
  · replace z : g.1 26 w = g.1 5 4 := z
    rw [e26, e4] at z
    exact And.intro (Or.inr rfl) (And.intro rfl (Or.inl ⟨rfl, Or.inl z⟩))
  · replace z : ¬ g.1 26 w = g.1 5 4 := z
    rw [e26, e4] at z
    refine And.intro (by omega) (And.intro (by omega) ?_)
    refine And.intro (show inR (g.1 27 w) by rw [e27]; exact h27) (And.intro (show inR (g.1 5 4) by omega) (And.intro (fun z2 => ?_) (fun z2 => ?_)))
    · replace z2 : ¬ g.1 27 w = g.1 5 4 := z2
      rw [e27, e4] at z2
      exact And.intro (Or.inl rfl) (And.intro rfl (Or.inr ⟨rfl, fun q => by rcases q with q | q; exact z q; exact z2 q⟩))
    · replace z2 : g.1 27 w = g.1 5 4 := z2
      rw [e27, e4] at z2
      exact And.intro (Or.inr rfl) (And.intro rfl (Or.inl ⟨rfl, Or.inr z2⟩))
theorem c_wayGoesW {d : Nat} (hd : 1 ≤ d) (g : zH) (R : Nat → Nat → Int) (σ P N n : Nat) (hi : Nat → Int) (p m y w m1 : Nat) (hR : WR R σ P N n) (hW : WC R hi g p m y) (hw : w < N) (hm : m1 < 1440) (hy : y ≤ 3) (hb : ∀ j : Nat, j < 1440 → inR (hi j)) :
    zC d k_X3_wayGoes [sR 5, sI w, sI m1, sI σ, sI y] g (fun o g2 => g = g2 ∧ isB o (goP (R 30 w) (R 31 w) (takeF (R 28 w) (R 32 σ) y) hi (R 29 w) m1)) := by
  obtain ⟨r1, r2, r3, r4, r5, r6, r7, r8, r9⟩ := hR
  obtain ⟨hr, h34, e4, e5, e6⟩ := hW
  have e := r5 w hw
  have e' := r7 w (by omega)
  have go := c_X3_wayGoes hd g w m1 σ y (by omega) hm r3 hy (by rw [hr 28 (by omega)]; exact e.2.2.2) (by rw [hr 32 (by omega)]; exact r6) (by rw [hr 29 (by omega)]; omega) (by rw [hr 30 (by omega)]; omega) (by rw [hr 31 (by omega)]; omega) (fun j hj => by rw [h34 j hj]; exact hb j hj)
  rw [hr 28 (by omega), hr 29 (by omega), hr 30 (by omega), hr 31 (by omega), hr 32 (by omega)] at go
  refine zC_mono go ?_
  rintro o g2 ⟨rfl, ⟨rfl, z⟩ | ⟨rfl, z⟩⟩
  · exact ⟨rfl, Or.inl ⟨rfl, (goP_c h34).mp z⟩⟩
  · exact ⟨rfl, Or.inr ⟨rfl, fun q => z ((goP_c h34).mpr q)⟩⟩
set_option maxHeartbeats 1000000 in
theorem c_X3_follow {d : Nat} (hd : 3 ≤ d) (g : zH) (R : Nat → Nat → Int) (σ P N n : Nat) (hi : Nat → Int) (p m y : Nat) (v : Int) (hR : WR R σ P N n) (hW : WC R hi g p m y) (hp : p < P) (hm : m < 1440) (hy : y ≤ 3) (hv : 0 ≤ v ∧ v < N) (hb : ∀ j : Nat, j < 1440 → inR (hi j)) :
    zC d k_X3_follow [sR 5, sI v, sI σ] g (fun o g2 => (mvOK R σ hi v p m y ∧ o = some (sI 1) ∧ g2 = setI (setI (setI g 5 5 (nxM R σ v m y)) 5 4 (nxP R v p)) 5 6 (nxY v y)) ∨ (¬ mvOK R σ hi v p m y ∧ o = some (sI 0) ∧ g2 = g)) := by
  obtain ⟨w, hw⟩ : ∃ w : Nat, v = w := ⟨v.toNat, by omega⟩
  subst hw
  have hR2 := hR
  have hW2 := hW
  obtain ⟨r1, r2, r3, r4, r5, r6, r7, r8, r9⟩ := hR2
  obtain ⟨hr, h34, e4, e5, e6⟩ := hW2
  have hwN : w < N := by omega
  have e := r5 w hwN
  have tb := (takeF_b (y := (y : Int)) e.2.2.2 r6 (by omega)).2
  have e26 := hr 26 (by omega)
  have e27 := hr 27 (by omega)
  have e28 := hr 28 (by omega)
  have e32 := hr 32 (by omega)
  have ew : ((w : Int)).toNat = w := rfl
  have w0 : (0 : Int) ≤ (w : Int) := by omega
  have w1 : (w : Int) < 24 := by omega
  have hd1 : d - 1 + 1 ≤ d := by omega
  have hdd : 1 ≤ d := by omega
  have no : ∀ {q : Prop}, ¬ ((R 26 w = p ∨ R 27 w = p) ∧ q) → (mvOK R σ hi w p m y → q) → ¬ mvOK R σ hi w p m y := fun {q} a b c => a ⟨(c.1 (by omega)).1, b c⟩
  have tk := c_X2_taking (d := d - 1) g w σ y (by omega) r3 (by omega) (by rw [e28]; exact e.2.2.2) (by rw [e32]; exact r6)
  rw [e28, e32] at tk
  refine zC_of (by decide +kernel) (Nat.le_of_ble_eq_true rfl) (fun X C E => zrun_sound t_X3_follow C E [] 80 _ _ _ _ ?_)
  refine zcall_i (d' := d - 1) hd1 (c_X3_leadsOn g R hi p m y w hW (by omega) (by omega) (by omega) (by omega)) ?_
  rintro o g2 ⟨rfl, ⟨rfl, z⟩ | ⟨rfl, z⟩⟩
  · refine And.intro (by decide) (And.intro (fun q => absurd q (by decide)) (fun _ => ?_))
    refine zcall_i (d' := d - 1) hd1 (zC_as (by simp only [e5, e6]) (c_wayGoesW (by omega) g R σ P N n hi p m y w m hR hW hwN hm hy hb)) ?_
    rintro o g2 ⟨rfl, ⟨rfl, z2⟩ | ⟨rfl, z2⟩⟩
    · have ok : mvOK R σ hi w p m y := ⟨fun _ => ⟨z, z2⟩, fun q => absurd q (by omega)⟩
      have nM : (m : Int) + takeF (R 28 w) (R 32 σ) y = nxM R σ w m y := by
        unfold nxM
        rw [if_pos (by omega), ew]
        omega
      have nY : (min ((y : Int) + 1) 3 : Int) = nxY w y := by
        unfold nxY
        rw [if_pos (by omega)]
        omega
      refine And.intro (by decide) (And.intro (fun _ => ?_) (fun q => absurd q (by decide)))
      refine zcall_i (d' := d - 1) hd1 (zC_as (by simp only [e6]) tk) ?_
      rintro _ _ ⟨rfl, rfl⟩
      refine And.intro w0 (And.intro w1 ?_)
      refine And.intro (show inR (g.1 26 w) by rw [e26]; omega) (And.intro (show inR (g.1 5 4) by omega) (And.intro (fun q => ?_) (fun q => ?_)))
      · replace q : ¬ g.1 26 w = g.1 5 4 := q
        rw [e26, e4] at q
        have nP : R 26 w = nxP R w p := by
          unfold nxP
          rw [if_pos (by omega), ew, if_neg q]
          omega
        refine And.intro w0 (And.intro w1 ?_)
        refine And.intro hdd (And.intro (show inR (g.1 5 6 + 1) by omega) (And.intro (by decide) ?_))
        refine And.intro (Or.inr rfl) (Or.inl ⟨ok, rfl, ?_⟩)
        show setI (setI (setI g 5 5 (g.1 5 5 + takeF (R 28 w) (R 32 σ) y)) 5 4 (g.1 26 w)) 5 6 (min (g.1 5 6 + 1) 3) = _
        rw [e5, e6, e26, nM, nY, nP]
      · replace q : g.1 26 w = g.1 5 4 := q
        rw [e26, e4] at q
        have nP : R 27 w = nxP R w p := by
          unfold nxP
          rw [if_pos (by omega), ew, if_pos q]
          omega
        refine And.intro w0 (And.intro w1 ?_)
        refine And.intro hdd (And.intro (show inR (g.1 5 6 + 1) by omega) (And.intro (by decide) ?_))
        refine And.intro (Or.inr rfl) (Or.inl ⟨ok, rfl, ?_⟩)
        show setI (setI (setI g 5 5 (g.1 5 5 + takeF (R 28 w) (R 32 σ) y)) 5 4 (g.1 27 w)) 5 6 (min (g.1 5 6 + 1) 3) = _
        rw [e5, e6, e27, nM, nY, nP]
    · refine And.intro (by decide) (And.intro (fun q => absurd rfl q) (fun _ => ?_))
      exact And.intro (Or.inl rfl) (Or.inr ⟨fun q => z2 (q.1 (by omega)).2, rfl, rfl⟩)
  · refine And.intro (by decide) (And.intro (fun _ => ?_) (fun q => absurd rfl q))
    exact And.intro (Or.inl rfl) (Or.inr ⟨fun q => z (q.1 (by omega)).1, rfl, rfl⟩)
theorem WC_5 {R : Nat → Nat → Int} {hi : Nat → Int} {g : zH} {p m y p' m' y' : Nat} (h : WC R hi g p m y) : WC R hi (setI (setI (setI g 5 5 (m' : Nat)) 5 4 (p' : Nat)) 5 6 (y' : Nat)) p' m' y' := by
  obtain ⟨hr, h34, e4, e5, e6⟩ := h
  refine ⟨fun c hc => ?_, h34, rfl, rfl, rfl⟩
  rw [setI_ne (by omega), setI_ne (by omega), setI_ne (by omega)]
  exact hr c hc
theorem WC_m {R : Nat → Nat → Int} {hi : Nat → Int} {g : zH} {p m y m' : Nat} (h : WC R hi g p m y) : WC R hi (setI g 5 5 (m' : Nat)) p m' y := by
  obtain ⟨hr, h34, e4, e5, e6⟩ := h
  refine ⟨fun c hc => ?_, h34, e4, rfl, e6⟩
  rw [setI_ne (by omega)]
  exact hr c hc
set_option maxHeartbeats 2000000 in
theorem c_X3_walk {d : Nat} (hd : 4 ≤ d) (g : zH) (R : Nat → Nat → Int) (σ P N n : Nat) (hi : Nat → Int) (fm : Int) (p0 m0 : Nat) (hR : WR R σ P N n) (hrow : ∀ c, (25 ≤ c ∧ c ≤ 32) ∨ c = 39 → g.1 c = R c) (h34 : ∀ j : Nat, j < 1440 → g.1 34 j = hi j) (hn : g.1 5 3 = n) (hfm : 0 ≤ fm ∧ fm ≤ 2000000) (e1 : fm / 10000 = p0) (e2 : fm % 10000 = m0) (hp : p0 < P) (hm : m0 < 1440) (hb : ∀ j : Nat, j < 1440 → inR (hi j)) :
    zC d k_X3_walk [sR 5, sI fm, sI σ] g (fun o g2 => fr fr5 g g2 ∧ ∃ (r : Int) (k : Nat), o = some (sI r) ∧ walkR R σ hi p0 m0 n r k ∧ WC R hi g2 (wkS R σ p0 m0 k).1 (wkS R σ p0 m0 k).2.1 (wkS R σ p0 m0 k).2.2) := by
  have hR2 := hR
  obtain ⟨r1, r2, r3, r4, r5, r6, r7, r8, r9⟩ := hR2
  have hd1 : d - 1 + 1 ≤ d := by omega
  refine zC_of (by decide +kernel) (Nat.le_of_ble_eq_true rfl) (fun X C E => ?_)
  have loop : ∀ (f i : Nat) (G : zH), i + f = n → okN R σ hi p0 m0 i → WC R hi G (wkS R σ p0 m0 i).1 (wkS R σ p0 m0 i).2.1 (wkS R σ p0 m0 i).2.2 → fr fr5 g G → zJ X 25 [some (sR 5), some (sI fm), some (sI σ), some (sI i)] [] G := by
    intro f
    induction f with
    | zero =>
      intro i G hif hok hW hf
      have e3 : G.1 5 3 = n := ((hf 5 3 rfl).1).trans hn
      refine zrun_sound t_X3_walk C E [] 60 _ _ _ _ ?_
      refine And.intro (by omega) (And.intro (by omega) (And.intro (fun _ => ?_) (fun z => absurd (by omega) z)))
      exact And.intro hf ⟨-2, i, rfl, ⟨hok, Or.inl ⟨rfl, by omega⟩⟩, hW⟩
    | succ f ih =>
      intro i G hif hok hW hf
      have e3 : G.1 5 3 = n := ((hf 5 3 rfl).1).trans hn
      obtain ⟨w1, w2, w3⟩ := wk_in hR hp hm i (by omega) hok
      have hv := r9 i (by omega)
      have e39 : G.1 39 = R 39 := hW.1 39 (by omega)
      have k0 : (0 : Int) ≤ (i : Int) := by omega
      have k1 : (i : Int) < 12 := by omega
      have ei : ((i : Int)).toNat = i := rfl
      have good : ∀ G2 : zH, mvOK R σ hi (R 39 i) (wkS R σ p0 m0 i).1 (wkS R σ p0 m0 i).2.1 (wkS R σ p0 m0 i).2.2 → WC R hi G2 (wkS R σ p0 m0 (i + 1)).1 (wkS R σ p0 m0 (i + 1)).2.1 (wkS R σ p0 m0 (i + 1)).2.2 → fr fr5 g G2 → zJ X 71 [some (sR 5), some (sI fm), some (sI σ), some (sI i)] [sI 1] G2 := by
        intro G2 hmv hW2 hf2
        refine zrun_sound t_X3_walk C E [25] 60 _ _ _ _ ?_
        refine And.intro (by decide) (And.intro (fun _ => ?_) (fun q => absurd q (by decide)))
        refine zJ_le (ih (i + 1) G2 (by omega) (fun j hj => ?_) hW2 hf2) (And.intro rfl (And.intro rfl (And.intro rfl (And.intro rfl trivial)))) rfl rfl
        by_cases e : j = i
        · subst e
          exact hmv
        · exact hok j (by omega)
      have bad : ¬ mvOK R σ hi (R 39 i) (wkS R σ p0 m0 i).1 (wkS R σ p0 m0 i).2.1 (wkS R σ p0 m0 i).2.2 → zJ X 71 [some (sR 5), some (sI fm), some (sI σ), some (sI i)] [sI 0] G := by
        intro hmv
        refine zrun_sound t_X3_walk C E [] 60 _ _ _ _ ?_
        refine And.intro (by decide) (And.intro (fun q => absurd rfl q) (fun _ => ?_))
        exact And.intro hf ⟨i, i, rfl, ⟨hok, Or.inr ⟨rfl, by omega, hmv⟩⟩, hW⟩
      refine zrun_sound t_X3_walk C E [25, 71] 60 _ _ _ _ ?_
      refine And.intro (by omega) (And.intro (by omega) (And.intro (fun z => absurd z (by omega)) (fun _ => ?_)))
      refine And.intro k0 (And.intro k1 ?_)
      rw [ei, e39]
      refine And.intro (by omega) (And.intro (by decide) (And.intro (fun z => ?_) (fun z => ?_)))
      · refine And.intro k0 (And.intro k1 ?_)
        rw [ei, e39]
        refine zcall_i (d' := d - 1) hd1 (c_X3_follow (by omega) G R σ P N n hi _ _ _ (R 39 i) hR hW w1 w2 w3 (by omega) hb) ?_
        rintro o G2 (⟨hmv, rfl, rfl⟩ | ⟨hmv, rfl, rfl⟩)
        · exact good _ hmv (WC_5 hW) (fr_setI (fr_setI (fr_setI hf rfl) rfl) rfl)
        · exact bad hmv
      · refine And.intro k0 (And.intro k1 ?_)
        rw [ei, e39]
        have hst := c_X3_stay (d := d - 1) (by omega) G R hi _ _ _ (R 39 i) hW (by omega) w2 (by omega) (r8 _ (by omega)) hb
        have eqv : mvOK R σ hi (R 39 i) (wkS R σ p0 m0 i).1 (wkS R σ p0 m0 i).2.1 (wkS R σ p0 m0 i).2.2 ↔ ∀ k : Nat, (k : Int) < R 39 i - 100 → wtP hi (R 25 (wkS R σ p0 m0 i).1) ((wkS R σ p0 m0 i).2.1 + k) := ⟨fun q => q.2 (by omega), fun q => ⟨fun c => absurd c (by omega), fun _ => q⟩⟩
        refine zcall_i (d' := d - 1) hd1 hst ?_
        rintro o G2 (⟨hmv, rfl, rfl⟩ | ⟨hmv, rfl, rfl⟩)
        · refine good _ (eqv.mpr hmv) ?_ (fr_setI hf rfl)
          have ex : wkS R σ p0 m0 (i + 1) = ((wkS R σ p0 m0 i).1, (wkS R σ p0 m0 i).2.1 + (R 39 i - 100).toNat, (wkS R σ p0 m0 i).2.2) := by
            show (nxP R (R 39 i) _, nxM R σ (R 39 i) _ _, nxY (R 39 i) _) = _
            unfold nxP nxM nxY
            rw [if_neg (by omega), if_neg (by omega), if_neg (by omega)]
          rw [ex]
          exact WC_m hW
        · exact bad (fun q => hmv (eqv.mp q))
  refine zrun_sound t_X3_walk C E [25] 60 _ _ _ _ ?_
  refine And.intro ⟨hfm.1, by omega⟩ (And.intro (by decide) (And.intro ⟨hfm.1, by omega⟩ (And.intro (by decide) ?_)))
  refine zJ_le (loop n 0 (setI (setI (setI g 5 4 (p0 : Int)) 5 5 (m0 : Int)) 5 6 0) (by omega) (fun j hj => absurd hj (by omega)) ⟨fun c hc => ?_, h34, rfl, rfl, rfl⟩ (fr_setI (fr_setI (fr_setI (fr_rfl _ _) rfl) rfl) rfl)) (And.intro rfl (And.intro rfl (And.intro rfl (And.intro rfl trivial)))) rfl (by rw [← e1, ← e2])
  rw [setI_ne (by omega), setI_ne (by omega), setI_ne (by omega)]
  exact hrow c hc
/-! the class's three questions -/
abbrev frW : Nat → Nat → Bool := fun c i => frK c i || (c == 5 && (i == 4 || i == 5 || i == 6))
theorem frW_K {h g : zH} (a : fr frK h g) : fr frW h g := fr_sub a (fun c i q => by
  simp only [frW, Bool.or_eq_false_iff] at q
  exact q.1)
theorem frW_5 {h g : zH} (a : fr fr5 h g) : fr frW h g := fr_sub a (fun c i q => by
  simp only [frW, Bool.or_eq_false_iff] at q
  exact q.2)
theorem Inv_gen {h g : zH} (hI : Inv2 h) (hs : Isea g) (e : ∀ c, c ≠ 5 → own52 c = false → g.1 c = h.1 c) (eL : ∀ c, c ≠ 5 → own52 c = false → g.2 c = h.2 c) (e53 : g.1 5 3 = h.1 5 3) (e5 : ∀ i, i ≠ 27 → i ≠ 39 → i ≠ 40 → i ≠ 41 → g.1 52 i = h.1 52 i) : Inv2 g := by
  obtain ⟨⟨i1, i2, -, i4, i5, i6, i7, i8, i9, i10⟩, i11⟩ := hI
  refine ⟨⟨?_, ?_, hs, ?_, ?_, ?_, ?_, ?_, ?_, ?_⟩, ?_⟩
  · unfold VV Vn Vt Vw Vp Vy Vh Vs at *
    rw [e 2 (by omega) rfl, e 19 (by omega) rfl, e 20 (by omega) rfl, e 21 (by omega) rfl, e 22 (by omega) rfl, e 23 (by omega) rfl, e 24 (by omega) rfl, e 25 (by omega) rfl, e 26 (by omega) rfl, e 27 (by omega) rfl, e 28 (by omega) rfl, e 29 (by omega) rfl, e 30 (by omega) rfl, e 31 (by omega) rfl, e 32 (by omega) rfl]
    exact i1
  · unfold Ieq at *
    rw [e 2 (by omega) rfl, e 19 (by omega) rfl, e 20 (by omega) rfl, e 21 (by omega) rfl, e 22 (by omega) rfl, e 23 (by omega) rfl, e 24 (by omega) rfl, e 25 (by omega) rfl, e 26 (by omega) rfl, e 27 (by omega) rfl, e 28 (by omega) rfl, e 29 (by omega) rfl, e 30 (by omega) rfl, e 31 (by omega) rfl, e 32 (by omega) rfl, e 53 (by omega) rfl, e 58 (by omega) rfl, e 59 (by omega) rfl, e 60 (by omega) rfl, e 63 (by omega) rfl, e 64 (by omega) rfl, e 65 (by omega) rfl, e 66 (by omega) rfl, e 67 (by omega) rfl, e 68 (by omega) rfl, e5 8 (by omega) (by omega) (by omega) (by omega), e5 16 (by omega) (by omega) (by omega) (by omega), e5 20 (by omega) (by omega) (by omega) (by omega), e5 21 (by omega) (by omega) (by omega) (by omega), e5 25 (by omega) (by omega) (by omega) (by omega), e5 26 (by omega) (by omega) (by omega) (by omega)]
    exact i2
  · unfold Itape at *
    rw [e 1 (by omega) rfl, e 16 (by omega) rfl, e 57 (by omega) rfl, e5 7 (by omega) (by omega) (by omega) (by omega)]
    exact i4
  · unfold Iplan at *
    rw [e53, e 2 (by omega) rfl, e 39 (by omega) rfl, e 74 (by omega) rfl, e5 37 (by omega) (by omega) (by omega) (by omega)]
    exact i5
  · unfold Ichg at *
    rw [e 6 (by omega) rfl, e 40 (by omega) rfl, e 41 (by omega) rfl, e 42 (by omega) rfl, e 43 (by omega) rfl, e 54 (by omega) rfl, e 55 (by omega) rfl, e 56 (by omega) rfl, e5 5 (by omega) (by omega) (by omega) (by omega), e5 4 (by omega) (by omega) (by omega) (by omega)]
    exact i6
  · unfold Imark at *
    rw [e 0 (by omega) rfl, e 2 (by omega) rfl, e 15 (by omega) rfl, e 75 (by omega) rfl, e5 42 (by omega) (by omega) (by omega) (by omega)]
    exact i7
  · unfold Ibod at *
    rw [e 7 (by omega) rfl, e 44 (by omega) rfl, e 45 (by omega) rfl, e 76 (by omega) rfl, e 77 (by omega) rfl, e5 44 (by omega) (by omega) (by omega) (by omega), e5 47 (by omega) (by omega) (by omega) (by omega)]
    exact i8
  · intro k hk
    have a := e (8 + k) (by omega) (by simp [own52]; omega)
    have b := eL (46 + k) (by omega) (by simp [own52]; omega)
    rw [a, b, e 7 (by omega) rfl, e 78 (by omega) rfl, e 79 (by omega) rfl, eL 80 (by omega) rfl]
    exact i9 k hk
  · unfold Imisc at *
    rw [e5 31 (by omega) (by omega) (by omega) (by omega), e5 32 (by omega) (by omega) (by omega) (by omega), e5 34 (by omega) (by omega) (by omega) (by omega)]
    exact i10
  · rw [e5 33 (by omega) (by omega) (by omega) (by omega)]
    exact i11
theorem Inv_W {h g : zH} (hI : Inv2 h) (hs : Isea g) (hf : fr frW h g) : Inv2 g := by
  refine Inv_gen hI hs (fun c h5 q => funext fun i => (hf c i ?_).1) (fun c h5 q => funext fun i => (hf c i ?_).2) (hf 5 3 rfl).1 (fun i _ _ _ _ => (hf 52 i ?_).1)
  · simp [own52] at q
    simp [frW, frK]
    omega
  · simp [own52] at q
    simp [frW, frK]
    omega
  · simp [frW, frK]
