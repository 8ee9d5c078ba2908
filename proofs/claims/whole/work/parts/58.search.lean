/-! ===== searches, as both sides ask them ===== -/
theorem soonR_ex (S : Nat → Nat → Nat → Nat → Nat → Nat → Prop) (p0 m0 to e : Nat) : ∃ r : Int, soonR S p0 m0 to e r := by
  have key : ∀ n : Nat, (∀ m y : Nat, m < n → ¬ RdS S p0 m0 to m y) ∨ ∃ m : Nat, m < n ∧ (∃ y, RdS S p0 m0 to m y) ∧ ∀ m' y : Nat, m' < m → ¬ RdS S p0 m0 to m' y := by
    intro n
    induction n with
    | zero => exact Or.inl (fun m y h => absurd h (by omega))
    | succ n ih =>
      rcases ih with a | ⟨m, a, b, c⟩
      · by_cases q : ∃ y, RdS S p0 m0 to n y
        · exact Or.inr ⟨n, by omega, q, a⟩
        · refine Or.inl (fun m y h z => ?_)
          by_cases e : m = n
          · subst e
            exact q ⟨y, z⟩
          · exact a m y (by omega) z
      · exact Or.inr ⟨m, by omega, b, c⟩
  rcases key (e + 1) with a | ⟨m, a, b, c⟩
  · exact ⟨-2, Or.inl ⟨rfl, fun m y h => a m y (by omega)⟩⟩
  · exact ⟨m, Or.inr ⟨m, rfl, by omega, b, c⟩⟩
noncomputable def soonV (S : Nat → Nat → Nat → Nat → Nat → Nat → Prop) (p0 m0 to e : Nat) : Int := Classical.choose (soonR_ex S p0 m0 to e)
theorem soonV_ok (S : Nat → Nat → Nat → Nat → Nat → Nat → Prop) (p0 m0 to e : Nat) : soonR S p0 m0 to e (soonV S p0 m0 to e) := Classical.choose_spec (soonR_ex S p0 m0 to e)
theorem soonV_eq {S : Nat → Nat → Nat → Nat → Nat → Nat → Prop} {p0 m0 to e : Nat} {r : Int} (h : soonR S p0 m0 to e r) : r = soonV S p0 m0 to e := soonR_u h (soonV_ok S p0 m0 to e)
/-- the goal is reached, by e -/
def rdB (S : Nat → Nat → Nat → Nat → Nat → Nat → Prop) (p0 m0 to e : Nat) : Prop := ∃ m y : Nat, m ≤ e ∧ RdS S p0 m0 to m y
theorem soonV_no {S : Nat → Nat → Nat → Nat → Nat → Nat → Prop} {p0 m0 to e : Nat} : soonV S p0 m0 to e = -2 ↔ ¬ rdB S p0 m0 to e := by
  rcases soonV_ok S p0 m0 to e with ⟨a, b⟩ | ⟨m, a, b, ⟨y, c⟩, -⟩
  · exact ⟨fun _ ⟨m, y, h1, h2⟩ => b m y h1 h2, fun _ => a⟩
  · exact ⟨fun z => by omega, fun z => absurd ⟨m, y, b, c⟩ z⟩
theorem soonV_b (S : Nat → Nat → Nat → Nat → Nat → Nat → Prop) (p0 m0 to e : Nat) : soonV S p0 m0 to e = -2 ∨ (0 ≤ soonV S p0 m0 to e ∧ soonV S p0 m0 to e ≤ e) := by
  rcases soonV_ok S p0 m0 to e with ⟨a, b⟩ | ⟨m, a, b, ⟨y, c⟩, -⟩
  · exact Or.inl a
  · exact Or.inr (by omega)
theorem soonV_dk {S : Nat → Nat → Nat → Nat → Nat → Nat → Prop} {p0 m0 to e : Nat} (he : e ≤ 1439) : (0 ≤ soonV S p0 m0 to 1439 ∧ soonV S p0 m0 to 1439 ≤ e) ↔ rdB S p0 m0 to e := by
  rcases soonV_ok S p0 m0 to 1439 with ⟨a, b⟩ | ⟨m, a, b, ⟨y, c⟩, d⟩
  · exact ⟨fun z => by omega, fun ⟨m, y, h1, h2⟩ => absurd h2 (b m y (by omega))⟩
  · constructor
    · intro z
      exact ⟨m, y, by omega, c⟩
    · rintro ⟨m', y', h1, h2⟩
      refine ⟨by omega, ?_⟩
      rcases Nat.lt_or_ge m' m with q | q
      · exact absurd h2 (d m' y' q)
      · omega
def dayO (r : Int) : Int := if r = -2 then 1440 else r
theorem dayO_b (S : Nat → Nat → Nat → Nat → Nat → Nat → Prop) (p0 m0 to : Nat) : 0 ≤ dayO (soonV S p0 m0 to 1439) ∧ dayO (soonV S p0 m0 to 1439) ≤ 1440 := by
  unfold dayO
  rcases soonV_b S p0 m0 to 1439 with a | a
  · rw [if_pos a]; omega
  · rw [if_neg (by omega)]; omega
/-- more steps, no later -/
theorem dayO_le {P p0 m0 to : Nat} {S S' : Nat → Nat → Nat → Nat → Nat → Nat → Prop} (hc : ∀ p m y p' m' y', p < P → y < 4 → S p m y p' m' y' → S' p m y p' m' y') (hS : Sok S P) (hp : p0 < P) : dayO (soonV S' p0 m0 to 1439) ≤ dayO (soonV S p0 m0 to 1439) := by
  have b' := dayO_b S' p0 m0 to
  rcases soonV_ok S p0 m0 to 1439 with ⟨a, b⟩ | ⟨m, a, b, ⟨y, c⟩, d⟩
  · unfold dayO at b' ⊢
    rw [if_pos a]
    exact b'.2
  · have c' := RdS_le hc hS hp c
    rcases soonV_ok S' p0 m0 to 1439 with ⟨a2, b2⟩ | ⟨m2, a2, b2, c2, d2⟩
    · exact absurd c' (b2 m y (by omega))
    · unfold dayO
      rw [if_neg (by omega), if_neg (by omega), a, a2]
      rcases Nat.lt_or_ge m m2 with q | q
      · exact absurd c' (d2 m y q)
      · omega
theorem rdB_le {P p0 m0 to e : Nat} {S S' : Nat → Nat → Nat → Nat → Nat → Nat → Prop} (hc : ∀ p m y p' m' y', p < P → y < 4 → S p m y p' m' y' → S' p m y p' m' y') (hS : Sok S P) (hp : p0 < P) (h : rdB S p0 m0 to e) : rdB S' p0 m0 to e := by
  obtain ⟨m, y, a, b⟩ := h
  exact ⟨m, y, a, RdS_le hc hS hp b⟩
theorem lastR_ex (S : Nat → Nat → Nat → Nat → Nat → Nat → Prop) (f to dn dk : Nat) : ∃ r : Int, lastR S f to dn dk r := by
  have key : ∀ n : Nat, n ≤ dk + 1 → (∀ m : Nat, n ≤ m → m ≤ dk → ¬ BkS S to dk f m 0) ∨ ∃ m : Nat, n ≤ m ∧ m ≤ dk ∧ BkS S to dk f m 0 ∧ ∀ m' : Nat, m < m' → m' ≤ dk → ¬ BkS S to dk f m' 0 := by
    intro n hn
    obtain ⟨k, hk⟩ : ∃ k, n + k = dk + 1 := ⟨dk + 1 - n, by omega⟩
    clear hn
    induction k generalizing n with
    | zero => exact Or.inl (fun m h1 h2 => absurd h2 (by omega))
    | succ k ih =>
      rcases ih (n + 1) (by omega) with a | ⟨m, a, b, c, d⟩
      · by_cases q : BkS S to dk f n 0
        · exact Or.inr ⟨n, by omega, by omega, q, fun m' h1 h2 => a m' (by omega) h2⟩
        · refine Or.inl (fun m h1 h2 z => ?_)
          by_cases e : m = n
          · subst e
            exact q z
          · exact a m (by omega) h2 z
      · exact Or.inr ⟨m, by omega, b, c, d⟩
  by_cases hd : dn ≤ dk + 1
  · rcases key dn hd with a | ⟨m, a, b, c, d⟩
    · exact ⟨-2, Or.inl ⟨rfl, a⟩⟩
    · exact ⟨m, Or.inr ⟨m, rfl, a, b, c, d⟩⟩
  · exact ⟨-2, Or.inl ⟨rfl, fun m h1 h2 => absurd h1 (by omega)⟩⟩
noncomputable def lastV (S : Nat → Nat → Nat → Nat → Nat → Nat → Prop) (f to dn dk : Nat) : Int := Classical.choose (lastR_ex S f to dn dk)
theorem lastV_ok (S : Nat → Nat → Nat → Nat → Nat → Nat → Prop) (f to dn dk : Nat) : lastR S f to dn dk (lastV S f to dn dk) := Classical.choose_spec (lastR_ex S f to dn dk)
theorem lastV_eq {S : Nat → Nat → Nat → Nat → Nat → Nat → Prop} {f to dn dk : Nat} {r : Int} (h : lastR S f to dn dk r) : r = lastV S f to dn dk := lastR_u h (lastV_ok S f to dn dk)
theorem lastV_b (S : Nat → Nat → Nat → Nat → Nat → Nat → Prop) (f to dn dk : Nat) : lastV S f to dn dk = -2 ∨ (0 ≤ lastV S f to dn dk ∧ lastV S f to dn dk ≤ dk) := by
  rcases lastV_ok S f to dn dk with ⟨a, b⟩ | ⟨m, a, b, b2, -⟩
  · exact Or.inl a
  · exact Or.inr (by omega)
/-! the steps, with a way that is free (F), one that is raised (M, by Y), a place where none may wait (W): -1 for none -/
def fsX (h : zH) (F : Int) (w : Nat) : Int := if F = (w : Int) then 0 else h.1 30 w
def lsX (h : zH) (F : Int) (w : Nat) : Int := if F = (w : Int) then 1439 else h.1 31 w
def beX (h : zH) (M Y : Int) (w : Nat) : Int := h.1 29 w + (if M = (w : Int) then Y else 0)
def SZ (h : zH) (c : Int) (s : Nat) (F M Y W : Int) : Nat → Nat → Nat → Nat → Nat → Nat → Prop := SQ h (c / 10).toNat (c % 10).toNat s (h.1 2 4).toNat (h.1 2 10).toNat (fsX h F) (lsX h F) (beX h M Y) W
abbrev SB (h : zH) (c : Int) (s : Nat) : Nat → Nat → Nat → Nat → Nat → Nat → Prop := SZ h c s (-1) (-1) 0 (-1)
theorem fsX_no {h : zH} (w : Nat) : fsX h (-1) w = h.1 30 w ∧ lsX h (-1) w = h.1 31 w := by
  unfold fsX lsX
  rw [if_neg (by omega), if_neg (by omega)]
  exact ⟨rfl, rfl⟩
theorem beX_no {h : zH} (Y : Int) (w : Nat) : beX h (-1) Y w = h.1 29 w := by
  unfold beX
  rw [if_neg (by omega), Int.add_zero]
theorem SZ_Y {h : zH} {c : Int} {s : Nat} {F Y Y' W : Int} : SZ h c s F (-1) Y W = SZ h c s F (-1) Y' W := by
  unfold SZ
  rw [show beX h (-1) Y = beX h (-1) Y' from funext fun w => by rw [beX_no, beX_no]]
/-! the class: what stands behind prepare -/
def QZ (h g : zH) (c : Int) (s : Nat) (F M Y W : Int) : Prop := SP g (c / 10).toNat (h.1 2 8).toNat (h.1 2 10).toNat ∧ (g.1 25 = h.1 25 ∧ g.1 26 = h.1 26 ∧ g.1 27 = h.1 27 ∧ g.1 28 = h.1 28 ∧ g.1 32 = h.1 32) ∧ (∀ m, m < 1440 → g.1 34 m = hiQ h (c % 10).toNat s (h.1 2 4).toNat m) ∧ (∀ w, w < (h.1 2 10).toNat → g.1 30 w = fsX h F w) ∧ (∀ w, w < (h.1 2 10).toNat → g.1 31 w = lsX h F w) ∧ (∀ w, w < (h.1 2 10).toNat → g.1 29 w = beX h M Y w) ∧ ∀ p y : Nat, p < (h.1 2 8).toNat → y < 4 → (lb (g.2 4 6) (4 * p + y) = true ↔ ¬ (p : Int) = W)
theorem QZ_same {h g : zH} {c : Int} {s : Nat} {F M Y W : Int} (hq : QZ h g c s F M Y W) : sameS (h.1 2 8).toNat (SC g (c / 10).toNat (h.1 2 10).toNat) (SZ h c s F M Y W) := by
  obtain ⟨q1, ⟨q2, q3, q4, q5, q6⟩, q7, q8, q9, q10, q11⟩ := hq
  exact SC_Q q1.2.2.2.1 q2 q3 q4 q5 q6 q8 q9 q10 q7 q11
abbrev frS : Nat → Nat → Bool := fun c _ => c == 35 || c == 38
theorem QZ_S {h g g2 : zH} {c : Int} {s : Nat} {F M Y W : Int} (hq : QZ h g c s F M Y W) (hf : fr frS g g2) : QZ h g2 c s F M Y W := by
  obtain ⟨q1, ⟨q2, q3, q4, q5, q6⟩, q7, q8, q9, q10, q11⟩ := hq
  have e := fun c (q : c ≠ 35 ∧ c ≠ 38) => (funext fun i => (hf c i (by simp; omega)).1 : g2.1 c = g.1 c)
  refine ⟨SP_c (frS_e2 hf) q1, ⟨by rw [e 25 (by omega)]; exact q2, by rw [e 26 (by omega)]; exact q3, by rw [e 27 (by omega)]; exact q4, by rw [e 28 (by omega)]; exact q5, by rw [e 32 (by omega)]; exact q6⟩, by rw [e 34 (by omega)]; exact q7, by rw [e 30 (by omega)]; exact q8, by rw [e 31 (by omega)]; exact q9, by rw [e 29 (by omega)]; exact q10, ?_⟩
  rw [(hf 4 6 rfl).2]
  exact q11
theorem QZ_bar {h g : zH} {c : Int} {s p : Nat} {F M Y W : Int} {r : Int64} (hq : QZ h g c s F M Y W) (hP : (h.1 2 8).toNat ≤ 12) (hr : ∀ q y : Nat, q < 12 → y < 4 → (lb r (4 * q + y) = true ↔ ¬ q = p)) : QZ h (setL g 4 6 r) c s F M Y p := by
  obtain ⟨q1, q2, q7, q8, q9, q10, q11⟩ := hq
  refine ⟨q1, q2, q7, q8, q9, q10, fun q y a b => ?_⟩
  rw [setL_at, if_pos ⟨rfl, rfl⟩, hr q y (by omega) b]
  omega
theorem QZ_hours {h g : zH} {c : Int} {s w : Nat} {M Y W : Int} (hq : QZ h g c s (-1) M Y W) : QZ h (setI (setI g 30 w 0) 31 w 1439) c s w M Y W := by
  obtain ⟨⟨p1, p2, p3, p4, p5, p6, p7, p8, p9, p10, p11, p12⟩, q2, q7, q8, q9, q10, q11⟩ := hq
  have f30 : ∀ i, (setI (setI g 30 w 0) 31 w 1439).1 30 i = if i = w then 0 else g.1 30 i := fun i => by
    rw [setI_ne (by omega), setI_at]
    by_cases e : i = w
    · rw [if_pos ⟨rfl, e⟩, if_pos e]
    · rw [if_neg (fun z => e z.2), if_neg e]
  have f31 : ∀ i, (setI (setI g 30 w 0) 31 w 1439).1 31 i = if i = w then 1439 else g.1 31 i := fun i => by
    rw [setI_at, setI_ne (by omega)]
    by_cases e : i = w
    · rw [if_pos ⟨rfl, e⟩, if_pos e]
    · rw [if_neg (fun z => e z.2), if_neg e]
  refine ⟨⟨p1, p2, p3, p4, p5, p6, p7, p8, fun i hi => ⟨(p9 i hi).1, ?_, ?_⟩, p10, p11, p12⟩, q2, q7, fun i hi => ?_, fun i hi => ?_, q10, q11⟩
  · rw [f30]
    have := (p9 i hi).2.1
    split <;> omega
  · rw [f31]
    have := (p9 i hi).2.2
    split <;> omega
  · rw [f30, q8 i hi, (fsX_no i).1]
    unfold fsX
    by_cases e : i = w
    · rw [if_pos e, if_pos (by omega)]
    · rw [if_neg e, if_neg (by omega)]
  · rw [f31, q9 i hi, (fsX_no i).2]
    unfold lsX
    by_cases e : i = w
    · rw [if_pos e, if_pos (by omega)]
    · rw [if_neg e, if_neg (by omega)]
theorem QZ_lift {h g : zH} {c : Int} {s w : Nat} {F W l : Int} (hq : QZ h g c s F (-1) 0 W) (hl : inR (g.1 29 w + l)) (hw : w < (h.1 2 10).toNat) : QZ h (setI g 29 w (g.1 29 w + l)) c s F w l W := by
  obtain ⟨⟨p1, p2, p3, p4, p5, p6, p7, p8, p9, p10, p11, p12⟩, q2, q7, q8, q9, q10, q11⟩ := hq
  have f29 : ∀ i, (setI g 29 w (g.1 29 w + l)).1 29 i = if i = w then g.1 29 w + l else g.1 29 i := fun i => by
    rw [setI_at]
    by_cases e : i = w
    · rw [if_pos ⟨rfl, e⟩, if_pos e]
    · rw [if_neg (fun z => e z.2), if_neg e]
  refine ⟨⟨p1, p2, p3, p4, p5, p6, p7, p8, fun i hi => ⟨?_, (p9 i hi).2⟩, p10, p11, p12⟩, q2, q7, q8, q9, fun i hi => ?_, q11⟩
  · rw [f29]
    have := (p9 i hi).1
    split
    · exact hl
    · exact this
  · rw [f29]
    unfold beX
    by_cases e : i = w
    · rw [if_pos e, if_pos (by omega), e, q10 w hw, beX_no]
    · rw [if_neg e, if_neg (by omega), q10 i hi, beX_no, Int.add_zero]
theorem c_prepX {d : Nat} (hd : 4 ≤ d) (h : zH) (c s' : Int) (s : Nat) (hV : VV h) (hI : Isea h) (hc : okT h c) (es : s' = s) (hs : 1 ≤ s ∧ s < 2 ^ (h.1 2 4).toNat) :
    zC d k_X5_prepare [sR 4, sI c, sI s'] h (fun o g => o = none ∧ fr frK h g ∧ Isea g ∧ QZ h g c s (-1) (-1) 0 (-1)) := by
  obtain ⟨hv1, hv2, hv3, hv4, hv5⟩ := id hV.1
  obtain ⟨q1, q2, q3⟩ := hc
  refine zC_mono (c_prep hd h c s' (c / 10).toNat (c % 10).toNat s (h.1 2 4).toNat (h.1 2 8).toNat (h.1 2 10).toNat hV hI (by omega) (by omega) (by omega) (by omega) (by omega) es hs (by omega) (by omega)) ?_
  rintro o g ⟨rfl, hf, hS, h6, hI2, h34⟩
  have e := fun c (q : ∀ i, frP c i = false) => (funext fun i => (hf c i (q i)).1 : g.1 c = h.1 c)
  refine ⟨rfl, frK_P hf, hI2, hS, ⟨e 25 (fun _ => rfl), e 26 (fun _ => rfl), e 27 (fun _ => rfl), e 28 (fun _ => rfl), e 32 (fun _ => rfl)⟩, h34, fun w _ => ?_, fun w _ => ?_, fun w _ => ?_, fun p y a b => ?_⟩
  · rw [e 30 (fun _ => rfl), (fsX_no w).1]
  · rw [e 31 (fun _ => rfl), (fsX_no w).2]
  · rw [e 29 (fun _ => rfl), beX_no]
  · rw [h6, lb_m1 _ (by omega)]
    exact ⟨fun _ => by omega, fun _ => rfl⟩
theorem c_soonX {d : Nat} (hd : 5 ≤ d) (h g : zH) (a b c e' : Int) (s e : Nat) (F M Y W : Int) (hV : VV h) (hq : QZ h g c s F M Y W) (ha : okF h a) (hb : okP h b) (ee : e' = e) (he : e < 1440) :
    zC d k_X5_soonest [sR 4, sI a, sI b, sI e'] g (fun o g2 => fr frS g g2 ∧ o = some (sI (soonV (SZ h c s F M Y W) (a / 10000).toNat (a % 10000).toNat b.toNat e))) := by
  obtain ⟨hv1, hv2, hv3, hv4, hv5⟩ := id hV.1
  obtain ⟨a1, a2, a3⟩ := ha
  obtain ⟨b1, b2⟩ := hb
  have hc := c_X5_soonest hd g (c / 10).toNat (h.1 2 8).toNat (h.1 2 10).toNat a (a / 10000).toNat (a % 10000).toNat b.toNat e hq.1 ⟨a1, by omega⟩ (by omega) (by omega) (by omega) (by omega) (by omega) he
  rw [show ((b.toNat : Nat) : Int) = b by omega, ← ee] at hc
  refine zC_mono hc ?_
  rintro o g2 ⟨hf, r, rfl, hr⟩
  refine ⟨hf, ?_⟩
  rw [soonV_eq (soonR_c (QZ_same hq) (SC_ok hq.1) (by omega) hr)]
theorem QZ_ok {h g : zH} {c : Int} {s : Nat} {F M Y W : Int} (hq : QZ h g c s F M Y W) : Sok (SZ h c s F M Y W) (h.1 2 8).toNat := Sok_c (QZ_same hq) (SC_ok hq.1)
/-! the reference: g is h, laid out anew, perhaps with a way free or raised, a place barred -/
def kpR (h g : zH) : Prop := (∀ c, own52 c = false → g.1 c = h.1 c) ∧ (∀ c, own52 c = false → g.2 c = h.2 c) ∧ ∀ i, i ≠ 27 → i ≠ 31 → i ≠ 32 → i ≠ 33 → i ≠ 34 → g.1 52 i = h.1 52 i
theorem kpR_0 (h : zH) : kpR h h := ⟨fun _ _ => rfl, fun _ _ => rfl, fun _ _ _ _ _ _ => rfl⟩
theorem kpR_t {h g f : zH} (a : kpR h g) (b : kpR g f) : kpR h f := ⟨fun c q => (b.1 c q).trans (a.1 c q), fun c q => (b.2.1 c q).trans (a.2.1 c q), fun i q1 q2 q3 q4 q5 => (b.2.2 i q1 q2 q3 q4 q5).trans (a.2.2 i q1 q2 q3 q4 q5)⟩
theorem kpR_R {h g : zH} (hf : fr frR h g) : kpR h g := by
  refine ⟨fun c q => funext fun i => (hf c i ?_).1, fun c q => funext fun i => (hf c i ?_).2, fun i q _ _ _ _ => (hf 52 i ?_).1⟩
  · simp [own52] at q
    simp [frR]
    omega
  · simp [own52] at q
    simp [frR]
    omega
  · simp [frR]
    exact q
theorem kpR_i {h g : zH} {i : Nat} {v : Int} (a : kpR h g) (hi : i = 31 ∨ i = 32 ∨ i = 33 ∨ i = 34) : kpR h (setI g 52 i v) := by
  refine kpR_t a ⟨fun c q => ?_, fun c q => rfl, fun j _ q2 q3 q4 q5 => ?_⟩
  · rw [setI_ne (fun z => by rw [z] at q; cases q)]
  · rw [setI_n2 (by omega)]
theorem kpR_V {h g : zH} (a : kpR h g) (hV : VV h) : VV g := by
  have e := a.1
  unfold VV Vn Vt Vw Vp Vy Vh Vs at *
  rw [e 2 rfl, e 19 rfl, e 20 rfl, e 21 rfl, e 22 rfl, e 23 rfl, e 24 rfl, e 25 rfl, e 26 rfl, e 27 rfl, e 28 rfl, e 29 rfl, e 30 rfl, e 31 rfl, e 32 rfl]
  exact hV
theorem kpR_E {h g : zH} (a : kpR h g) (hE : Ieq h) : Ieq g := by
  obtain ⟨e, -, e5⟩ := a
  unfold Ieq at *
  rw [e 2 rfl, e 19 rfl, e 20 rfl, e 21 rfl, e 22 rfl, e 23 rfl, e 24 rfl, e 25 rfl, e 26 rfl, e 27 rfl, e 28 rfl, e 29 rfl, e 30 rfl, e 31 rfl, e 32 rfl, e 53 rfl, e 58 rfl, e 59 rfl, e 60 rfl, e 63 rfl, e 64 rfl, e 65 rfl, e 66 rfl, e 67 rfl, e 68 rfl, e5 8 (by omega) (by omega) (by omega) (by omega) (by omega), e5 16 (by omega) (by omega) (by omega) (by omega) (by omega), e5 20 (by omega) (by omega) (by omega) (by omega) (by omega), e5 21 (by omega) (by omega) (by omega) (by omega) (by omega), e5 25 (by omega) (by omega) (by omega) (by omega) (by omega), e5 26 (by omega) (by omega) (by omega) (by omega) (by omega)]
  exact hE
theorem kpR_I {h g : zH} (a : kpR h g) (hI : Inv2 h) (hs : Isea g) (h31 : g.1 52 31 = -1) (h32 : g.1 52 32 = -1) (h34 : g.1 52 34 = -1) (h33 : 0 ≤ g.1 52 33 ∧ g.1 52 33 ≤ 200) : Inv2 g := by
  obtain ⟨⟨i1, i2, -, i4, i5, i6, i7, i8, i9, i10⟩, i11⟩ := hI
  have hV := kpR_V a i1
  have hE := kpR_E a i2
  obtain ⟨e, eL, e5⟩ := a
  have e5' : ∀ i, (i = 7 ∨ i = 37 ∨ i = 5 ∨ i = 4 ∨ i = 42 ∨ i = 44 ∨ i = 47) → g.1 52 i = h.1 52 i := fun i hi => e5 i (by omega) (by omega) (by omega) (by omega) (by omega)
  refine ⟨⟨hV, hE, hs, ?_, ?_, ?_, ?_, ?_, ?_, ⟨h31, h32, h34⟩⟩, h33⟩
  · unfold Itape at *
    rw [e 1 rfl, e 16 rfl, e 57 rfl, e5' 7 (by omega)]
    exact i4
  · unfold Iplan at *
    rw [e 2 rfl, e 5 rfl, e 39 rfl, e 74 rfl, e5' 37 (by omega)]
    exact i5
  · unfold Ichg at *
    rw [e 6 rfl, e 40 rfl, e 41 rfl, e 42 rfl, e 43 rfl, e 54 rfl, e 55 rfl, e 56 rfl, e5' 5 (by omega), e5' 4 (by omega)]
    exact i6
  · unfold Imark at *
    rw [e 0 rfl, e 2 rfl, e 15 rfl, e 75 rfl, e5' 42 (by omega)]
    exact i7
  · unfold Ibod at *
    rw [e 7 rfl, e 44 rfl, e 45 rfl, e 76 rfl, e 77 rfl, e5' 44 (by omega), e5' 47 (by omega)]
    exact i8
  · intro k hk
    have a := e (8 + k) (by simp [own52]; omega)
    have b := eL (46 + k) (by simp [own52]; omega)
    rw [a, b, e 7 rfl, e 78 rfl, e 79 rfl, eL 80 rfl]
    exact i9 k hk
theorem kpR_sea {h g : zH} (a : fr frR h g) (hI : Isea h) : Isea g := by
  have e := fun c (q : ∀ i, frR c i = false) => (funext fun i => (a c i (q i)).1 : g.1 c = h.1 c)
  exact Isea_c hI (fun c a b => e c (fun i => by simp [frR]; omega)) (e 2 (fun _ => rfl)) ⟨by rw [e 3 (fun _ => rfl)], by rw [e 3 (fun _ => rfl)]⟩ (e 33 (fun _ => rfl)) (e 34 (fun _ => rfl))
theorem kpR_SZ {h g : zH} (a : kpR h g) (c : Int) (s : Nat) (F M Y W : Int) : SZ g c s F M Y W = SZ h c s F M Y W := by
  have e := a.1
  have h1 : fsX g F = fsX h F := funext fun w => by unfold fsX; rw [e 30 rfl]
  have h2 : lsX g F = lsX h F := funext fun w => by unfold lsX; rw [e 31 rfl]
  have h3 : beX g M Y = beX h M Y := funext fun w => by unfold beX; rw [e 29 rfl]
  unfold SZ
  rw [h1, h2, h3]
  unfold SQ hiQ seaC tkC
  rw [e 2 rfl, e 19 rfl, e 20 rfl, e 21 rfl, e 22 rfl, e 23 rfl, e 25 rfl, e 26 rfl, e 27 rfl, e 28 rfl, e 32 rfl]
theorem kpR_ok {h g : zH} (a : kpR h g) : (∀ x, okF g x = okF h x) ∧ (∀ x, okP g x = okP h x) ∧ (∀ x, okT g x = okT h x) ∧ g.1 2 = h.1 2 := by
  have e := a.1 2 rfl
  unfold okF okP okT
  rw [e]
  exact ⟨fun _ => rfl, fun _ => rfl, fun _ => rfl, rfl⟩
def SM (h : zH) (c : Int) (s : Nat) : Nat → Nat → Nat → Nat → Nat → Nat → Prop := SR h (c / 10).toNat (h.1 2 10).toNat (hiR h (c % 10).toNat s (h.1 2 4).toNat) (beR h)
theorem SM_Z {h : zH} {c : Int} {s : Nat} (hV : VV h) (hE : Ieq h) (hc : okT h c) (hs : 1 ≤ s ∧ s < 2 ^ (h.1 2 4).toNat) : sameS (h.1 2 8).toNat (SM h c s) (SZ h c s (h.1 52 31) (h.1 52 32) (h.1 52 33) (h.1 52 34)) := by
  obtain ⟨hv1, hv2, hv3, hv4, hv5⟩ := id hV.1
  obtain ⟨q1, q2, q3⟩ := hc
  have e5 := hE.2.2.2.2.2.1
  refine sameS_t (SR_Q hV hE (by omega) (by omega) (n := (h.1 2 4).toNat) (by omega) (N := (h.1 2 10).toNat) (by omega) (P := (h.1 2 8).toNat) (by omega) hs) (SQ_c (fun c _ _ _ _ _ => rfl) (fun w q => ?_) (fun w q => ?_) (fun w q => ?_))
  · unfold fsR fsX
    rw [(e5 w (by omega)).2.2.2.2.1]
  · unfold lsR lsX
    rw [(e5 w (by omega)).2.2.2.2.2]
  · unfold beR beX
    rw [(e5 w (by omega)).2.2.2.1]
theorem c_reachX {d : Nat} (hd : 4 ≤ d) (h : zH) (a c s' : Int) (s : Nat) (S : Nat → Nat → Nat → Nat → Nat → Nat → Prop) (hV : VV h) (hE : Ieq h) (hW : Imw h) (ha : okF h a) (hc : okT h c) (es : s' = s) (hs : 1 ≤ s ∧ s < 2 ^ (h.1 2 4).toNat) (hS : sameS (h.1 2 8).toNat (SM h c s) S) :
    zC d k_X9_reach [sR 52, sI a, sI c, sI s'] h (fun o g => o = none ∧ fr frR h g ∧ Sok S (h.1 2 8).toNat ∧ tellsR g (h.1 2 8).toNat (RdS S (a / 10000).toNat (a % 10000).toNat)) := by
  obtain ⟨hv1, hv2, hv3, hv4, hv5⟩ := id hV.1
  obtain ⟨a1, a2, a3⟩ := ha
  obtain ⟨q1, q2, q3⟩ := hc
  have hs32 : s < 32 := Nat.lt_of_lt_of_le hs.2 (Nat.pow_le_pow_right (by omega) (show (h.1 2 4).toNat ≤ 5 by omega))
  have hB : RB h (c / 10).toNat (h.1 2 8).toNat (h.1 2 10).toNat := RB_of hV hE hW (by omega) (by omega) (by omega)
  have hok : Sok (SM h c s) (h.1 2 8).toNat := SR_okB hB
  have hr := c_X9_reach hd h a c (a / 10000).toNat (a % 10000).toNat (c / 10).toNat (c % 10).toNat s (h.1 2 4).toNat (h.1 2 8).toNat (h.1 2 10).toNat ⟨a1, by omega⟩ (by omega) (by omega) (by omega) (by omega) ⟨q1, by omega⟩ (by omega) (by omega) (VR_of hV hE hW (by omega) (by omega) (by omega) (by omega)) hB hs32
  rw [← es] at hr
  refine zC_mono hr ?_
  rintro o g ⟨rfl, hf, hrp, ht⟩
  exact ⟨rfl, hf, Sok_c hS hok, tellsR_eq ht (fun p m y _ _ _ => RdS_c hS hok (by omega))⟩
theorem c_soonAtX {d : Nat} (hd : 2 ≤ d) (h g : zH) (a b : Int) (S : Nat → Nat → Nat → Nat → Nat → Nat → Prop) (hV : VV h) (ha : okF h a) (hb : okP h b) (hS : Sok S (h.1 2 8).toNat) (ht : tellsR g (h.1 2 8).toNat (RdS S (a / 10000).toNat (a % 10000).toNat)) :
    zC d k_X9_soonAt [sR 52, sI b] g (fun o g2 => g = g2 ∧ o = some (sI (soonV S (a / 10000).toNat (a % 10000).toNat b.toNat 1439))) := by
  obtain ⟨hv1, hv2, hv3, hv4, hv5⟩ := id hV.1
  obtain ⟨a1, a2, a3⟩ := ha
  obtain ⟨b1, b2⟩ := hb
  have hc := c_X9_soonAt hd g S b.toNat (a / 10000).toNat (a % 10000).toNat (h.1 2 8).toNat hS (by omega) (by omega) (by omega) (by omega) ht
  rw [show ((b.toNat : Nat) : Int) = b by omega] at hc
  refine zC_mono hc ?_
  rintro o g2 ⟨rfl, r, rfl, hr⟩
  exact ⟨rfl, by rw [soonV_eq hr]⟩
/-- all winds -/
def aw (h : zH) : Nat := 2 ^ (h.1 2 4).toNat - 1
theorem aw_ok {h : zH} (hV : VV h) : 1 ≤ aw h ∧ aw h < 2 ^ (h.1 2 4).toNat ∧ ((2 ^ (h.1 2 4).toNat : Nat) : Int) - 1 = aw h := by
  have hv2 := hV.1.2.1
  have h1 : 2 ^ 1 ≤ 2 ^ (h.1 2 4).toNat := Nat.pow_le_pow_right (by omega) (by omega)
  unfold aw
  omega
theorem c_X9_byDark {d : Nat} (hd : 5 ≤ d) (h : zH) (a b c s' : Int) (s : Nat) (S : Nat → Nat → Nat → Nat → Nat → Nat → Prop) (hV : VV h) (hE : Ieq h) (hW : Imw h) (ha : okF h a) (hb : okP h b) (hc : okT h c) (es : s' = s) (hs : 1 ≤ s ∧ s < 2 ^ (h.1 2 4).toNat) (hS : sameS (h.1 2 8).toNat (SM h c s) S) :
    zC d k_X9_byDark [sR 52, sI a, sI b, sI c, sI s'] h (fun o g => fr frR h g ∧ isB o (rdB S (a / 10000).toNat (a % 10000).toNat b.toNat (h.1 2 19).toNat)) := by
  obtain ⟨hv1, hv2, hv3, hv4, hv5⟩ := id hV.1
  have x6 := hE.1.2.2.2.2.2
  refine zC_of (by decide +kernel) (Nat.le_of_ble_eq_true rfl) (fun X C E => ?_)
  have dkE := @soonV_dk S (a / 10000).toNat (a % 10000).toNat b.toNat (h.1 2 19).toNat (by omega)
  have bd := soonV_b S (a / 10000).toNat (a % 10000).toNat b.toNat 1439
  refine zrun_sound t_X9_byDark C E [] 60 _ _ _ _ ?_
  refine zcall_i (d' := d - 1) (by omega) (c_reachX (by omega) h a c s' s S hV hE hW ha hc es hs hS) ?_
  rintro o g ⟨rfl, hf, hok, ht⟩
  refine zcall_i (d' := d - 1) (by omega) (c_soonAtX (by omega) h g a b S hV ha hb hok ht) ?_
  rintro o g2 ⟨rfl, rfl⟩
  have e26 : g.1 52 26 = h.1 2 19 := by rw [(hf 52 26 rfl).1]; exact x6
  refine And.intro (by omega) (And.intro (fun z => ?_) (fun z => ?_))
  · exact And.intro (Or.inl rfl) (And.intro hf (Or.inr ⟨rfl, fun q => by have := dkE.mpr q; omega⟩))
  · refine And.intro (by omega) (And.intro (by omega) (And.intro (fun z2 => ?_) (fun z2 => ?_)))
    · rw [e26] at z2
      exact And.intro (Or.inl rfl) (And.intro hf (Or.inr ⟨rfl, fun q => by have := dkE.mpr q; omega⟩))
    · rw [e26] at z2
      exact And.intro (Or.inr rfl) (And.intro hf (Or.inl ⟨rfl, dkE.mp (by omega)⟩))
theorem c_X9_soonOrNever {d : Nat} (hd : 5 ≤ d) (h : zH) (a b c : Int) (S : Nat → Nat → Nat → Nat → Nat → Nat → Prop) (hV : VV h) (hE : Ieq h) (hW : Imw h) (ha : okF h a) (hb : okP h b) (hc : okT h c) (hS : sameS (h.1 2 8).toNat (SM h c (aw h)) S) :
    zC d k_X9_soonOrNever [sR 52, sI a, sI b, sI c] h (fun o g => fr frR h g ∧ o = some (sI (dayO (soonV S (a / 10000).toNat (a % 10000).toNat b.toNat 1439)))) := by
  obtain ⟨hv1, hv2, hv3, hv4, hv5⟩ := id hV.1
  obtain ⟨w1, w2, w3⟩ := aw_ok hV
  have x2 := hE.1.2.1
  have bd := soonV_b S (a / 10000).toNat (a % 10000).toNat b.toNat 1439
  have hall := c_X9_allWinds (d := d - 1) h (by omega)
  rw [x2] at hall
  refine zC_of (by decide +kernel) (Nat.le_of_ble_eq_true rfl) (fun X C E => zrun_sound t_X9_soonOrNever C E [] 60 _ _ _ _ ?_)
  refine zcall_i (d' := d - 1) (by omega) hall ?_
  rintro o g ⟨rfl, rfl⟩
  refine zcall_i (d' := d - 1) (by omega) (c_reachX (by omega) h a c _ (aw h) S hV hE hW ha hc w3 ⟨w1, w2⟩ hS) ?_
  rintro o g ⟨rfl, hf, hok, ht⟩
  refine zcall_i (d' := d - 1) (by omega) (c_soonAtX (by omega) h g a b S hV ha hb hok ht) ?_
  rintro o g2 ⟨rfl, rfl⟩
  unfold dayO
  refine And.intro (by omega) (And.intro (fun z => ?_) (fun z => ?_))
  · exact And.intro hf (by rw [if_neg (by omega)])
  · exact And.intro hf (by rw [if_pos (by omega)])
theorem c_X8_soonOrDay {d : Nat} (hd : 6 ≤ d) (h g : zH) (a b c : Int) (s : Nat) (F M Y W : Int) (hV : VV h) (hq : QZ h g c s F M Y W) (ha : okF h a) (hb : okP h b) :
    zC d k_X8_soonOrDay [sR 0, sI a, sI b] g (fun o g2 => fr frS g g2 ∧ o = some (sI (dayO (soonV (SZ h c s F M Y W) (a / 10000).toNat (a % 10000).toNat b.toNat 1439)))) := by
  have bd := soonV_b (SZ h c s F M Y W) (a / 10000).toNat (a % 10000).toNat b.toNat 1439
  refine zC_of (by decide +kernel) (Nat.le_of_ble_eq_true rfl) (fun X C E => zrun_sound t_X8_soonOrDay C E [] 60 _ _ _ _ ?_)
  refine zcall_i (d' := d - 1) (by omega) (c_soonX (by omega) h g a b c 1439 s 1439 F M Y W hV hq ha hb rfl (by omega)) ?_
  rintro o g2 ⟨hf, rfl⟩
  unfold dayO
  refine And.intro (by omega) (And.intro (by decide) (And.intro (fun z => ?_) (fun z => ?_)))
  · exact And.intro hf (by rw [if_neg z])
  · exact And.intro hf (by rw [if_pos z])
