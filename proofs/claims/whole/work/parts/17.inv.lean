/-! ===== what a state of both sides is ===== -/
/-- all but what S allows is as it was -/
def fr (S : Nat → Nat → Bool) (h g : zH) : Prop := ∀ c i, S c i = false → g.1 c i = h.1 c i ∧ g.2 c i = h.2 c i
theorem fr_rfl (S : Nat → Nat → Bool) (h : zH) : fr S h h := fun _ _ _ => ⟨rfl, rfl⟩
theorem fr_trans {S : Nat → Nat → Bool} {h g f : zH} (a : fr S h g) (b : fr S g f) : fr S h f := fun c i q => ⟨(b c i q).1.trans (a c i q).1, (b c i q).2.trans (a c i q).2⟩
theorem fr_sub {S S' : Nat → Nat → Bool} {h g : zH} (a : fr S h g) (hs : ∀ c i, S' c i = false → S c i = false) : fr S' h g := fun c i q => a c i (hs c i q)
theorem fr_setI {S : Nat → Nat → Bool} {h g : zH} {c i : Nat} {v : Int} (a : fr S h g) (hc : S c i = true) : fr S h (setI g c i v) := fun c' i' q => by
  have hne : ¬ (c' = c ∧ i' = i) := fun e => by
    rw [e.1, e.2, hc] at q
    cases q
  rw [setI_at, setI_at2, if_neg hne]
  exact a c' i' q
theorem fr_setL {S : Nat → Nat → Bool} {h g : zH} {c i : Nat} {v : Int64} (a : fr S h g) (hc : S c i = true) : fr S h (setL g c i v) := fun c' i' q => by
  have hne : ¬ (c' = c ∧ i' = i) := fun e => by
    rw [e.1, e.2, hc] at q
    cases q
  rw [setL_at, setL_at1, if_neg hne]
  exact a c' i' q
/-- the greatest of f over the winds of a set, and a base -/
def hiF (base : Int) (f : Nat → Int) (s : Nat) : Nat → Int
  | 0 => base
  | n + 1 => if s / 2 ^ n % 2 = 1 then max (hiF base f s n) (f n) else hiF base f s n
theorem hiF_base {b b' : Int} {f : Nat → Int} {s : Nat} : ∀ n, (∃ w, w < n ∧ s / 2 ^ w % 2 = 1) → (∀ w, w < n → s / 2 ^ w % 2 = 1 → b ≤ f w ∧ b' ≤ f w) → hiF b f s n = hiF b' f s n
  | 0, ⟨w, h, _⟩, _ => absurd h (by omega)
  | n + 1, ⟨w, h, hw⟩, hb => by
    by_cases hex : ∃ w, w < n ∧ s / 2 ^ w % 2 = 1
    · unfold hiF
      rw [hiF_base n hex (fun w hw => hb w (by omega))]
    · have hwn : w = n := by
        rcases Nat.lt_or_ge w n with q | q
        · exact absurd ⟨w, q, hw⟩ hex
        · omega
      subst hwn
      have key : ∀ (c : Int) (m : Nat), m ≤ w → hiF c f s m = c := by
        intro c m
        induction m with
        | zero => intro _; rfl
        | succ m ih =>
          intro hm
          unfold hiF
          rw [if_neg (fun q => hex ⟨m, by omega, q⟩)]
          exact ih (by omega)
      unfold hiF
      rw [if_pos hw, if_pos hw, key b w (Nat.le_refl _), key b' w (Nat.le_refl _)]
      have := hb w (by omega) hw
      omega
theorem hiF_ext {b : Int} {f g : Nat → Int} {s : Nat} : ∀ n, (∀ w, w < n → s / 2 ^ w % 2 = 1 → f w = g w) → hiF b f s n = hiF b g s n
  | 0, _ => rfl
  | n + 1, h => by
    unfold hiF
    rw [hiF_ext n (fun w hw => h w (by omega))]
    split
    · rename_i q
      rw [h n (by omega) q]
    · rfl
theorem hiF_more {b : Int} {f : Nat → Int} {s n : Nat} (hs : s < 2 ^ n) : ∀ k, hiF b f s (n + k) = hiF b f s n
  | 0 => rfl
  | k + 1 => by
    show (if s / 2 ^ (n + k) % 2 = 1 then max (hiF b f s (n + k)) (f (n + k)) else hiF b f s (n + k)) = hiF b f s n
    have : s / 2 ^ (n + k) = 0 := Nat.div_eq_of_lt (Nat.lt_of_lt_of_le hs (Nat.pow_le_pow_right (by omega) (by omega)))
    rw [this, if_neg (by omega), hiF_more hs k]
theorem hiF_le {b : Int} {f : Nat → Int} {s : Nat} {x : Int} : ∀ n, hiF b f s n ≤ x ↔ b ≤ x ∧ ∀ w, w < n → s / 2 ^ w % 2 = 1 → f w ≤ x
  | 0 => ⟨fun h => ⟨h, fun w hw => absurd hw (by omega)⟩, fun h => h.1⟩
  | n + 1 => by
    unfold hiF
    have ih := hiF_le (b := b) (f := f) (s := s) (x := x) n
    split
    · rename_i q
      constructor
      · intro h
        have h1 := ih.mp (by omega)
        refine ⟨h1.1, fun w hw hb => ?_⟩
        by_cases e : w = n
        · subst e; omega
        · exact h1.2 w (by omega) hb
      · intro h
        have h1 := ih.mpr ⟨h.1, fun w hw => h.2 w (by omega)⟩
        have h2 := h.2 n (by omega) q
        omega
    · rename_i q
      rw [ih]
      constructor
      · intro h
        refine ⟨h.1, fun w hw hb => ?_⟩
        by_cases e : w = n
        · subst e; exact absurd hb q
        · exact h.2 w (by omega) hb
      · intro h
        exact ⟨h.1, fun w hw => h.2 w (by omega)⟩
theorem hiF_b {b : Int} {f : Nat → Int} {s : Nat} {lo hi : Int} (hb : lo ≤ b ∧ b ≤ hi) : ∀ n, (∀ w, w < n → lo ≤ f w ∧ f w ≤ hi) → lo ≤ hiF b f s n ∧ hiF b f s n ≤ hi
  | 0, _ => hb
  | n + 1, h => by
    unfold hiF
    have ih := hiF_b (s := s) hb n (fun w hw => h w (by omega))
    have := h n (by omega)
    split <;> omega
/-- numbers, tides, winds, places, ways as told: within what they may be (the class's rows) -/
def Vn (h : zH) : Prop := (0 ≤ h.1 2 0 ∧ h.1 2 0 ≤ 10) ∧ (1 ≤ h.1 2 4 ∧ h.1 2 4 ≤ 5) ∧ (0 ≤ h.1 2 8 ∧ h.1 2 8 ≤ 12) ∧ (0 ≤ h.1 2 10 ∧ h.1 2 10 ≤ 24) ∧ (0 ≤ h.1 2 18 ∧ h.1 2 18 ≤ h.1 2 19 ∧ h.1 2 19 ≤ 1439)
def Vt (h : zH) : Prop := ∀ t : Nat, (t : Int) < h.1 2 0 → TOK (h.1 19) (h.1 20) (h.1 21) t
def Vw (h : zH) : Prop := ∀ w : Nat, (w : Int) < h.1 2 4 → (-99 ≤ h.1 22 w ∧ h.1 22 w ≤ 99) ∧ (-60 ≤ h.1 23 w ∧ h.1 23 w ≤ 60) ∧ (1 ≤ h.1 24 w ∧ h.1 24 w ≤ 99)
def Vp (h : zH) : Prop := ∀ p : Nat, p < 12 → 0 ≤ h.1 25 p ∧ h.1 25 p ≤ 999
def Vy (h : zH) : Prop := ∀ w : Nat, (w : Int) < h.1 2 10 → (0 ≤ h.1 26 w ∧ h.1 26 w < h.1 2 8) ∧ (0 ≤ h.1 27 w ∧ h.1 27 w < h.1 2 8) ∧ h.1 26 w ≠ h.1 27 w ∧ (1 ≤ h.1 28 w ∧ h.1 28 w ≤ 90)
def Vh (h : zH) : Prop := ∀ w : Nat, w < 24 → (0 ≤ h.1 29 w ∧ h.1 29 w ≤ 999) ∧ (0 ≤ h.1 30 w ∧ h.1 30 w ≤ 1439) ∧ (0 ≤ h.1 31 w ∧ h.1 31 w ≤ 1439)
def Vs (h : zH) : Prop := ∀ s : Nat, s < 4 → 50 ≤ h.1 32 s ∧ h.1 32 s ≤ 400
def VV (h : zH) : Prop := Vn h ∧ Vt h ∧ Vw h ∧ Vp h ∧ Vy h ∧ Vh h ∧ Vs h
/-- the reference's rows tell the same -/
def Ieq (h : zH) : Prop := (h.1 52 8 = h.1 2 0 ∧ h.1 52 16 = h.1 2 4 ∧ h.1 52 20 = h.1 2 8 ∧ h.1 52 21 = h.1 2 10 ∧ h.1 52 25 = h.1 2 18 ∧ h.1 52 26 = h.1 2 19) ∧
  (∀ i : Nat, i < 10 → h.1 58 i = h.1 19 i) ∧ (∀ i : Nat, i < 120 → h.1 59 i = h.1 20 i ∧ h.1 60 i = h.1 21 i) ∧ (∀ i : Nat, i < 5 → h.1 63 i = h.1 22 i ∧ h.1 64 i = h.1 23 i ∧ h.1 65 i = h.1 24 i) ∧ (∀ i : Nat, i < 12 → h.1 53 i = h.1 25 i) ∧
  (∀ i : Nat, i < 24 → h.1 66 i = h.1 26 i ∧ h.1 67 i = h.1 27 i ∧ h.1 68 i = h.1 28 i ∧ h.1 53 (12 + i) = h.1 29 i ∧ h.1 53 (36 + i) = h.1 30 i ∧ h.1 53 (60 + i) = h.1 31 i) ∧ (∀ i : Nat, i < 4 → h.1 53 (84 + i) = h.1 32 i)
/-- the sea as far as it is laid out -/
def seaC (h : zH) (t : Nat) (m : Int) : Nat → Int := fun w => seaF (h.1 19) (h.1 20) (h.1 21) (h.1 22) (h.1 23) t w m
def Isea (h : zH) : Prop := h.1 3 3 = -1 ∨ ∃ t s n : Nat, h.1 3 3 = t ∧ h.1 3 4 = s ∧ h.1 2 4 = n ∧ (t : Int) < h.1 2 0 ∧ 1 ≤ s ∧ s < 2 ^ n ∧ (∀ m : Nat, m < 1440 → h.1 33 m = tideF (h.1 19) (h.1 20) (h.1 21) t m) ∧ (∀ m : Nat, m < 1440 → h.1 34 m = hiF (-1000) (seaC h t m) s n)
def Itape (h : zH) : Prop := h.1 52 7 = h.1 1 1 ∧ (0 ≤ h.1 1 1 ∧ h.1 1 1 ≤ 120) ∧ ∀ i : Nat, i < 120 → h.1 57 i = h.1 16 i ∧ (0 ≤ h.1 16 i ∧ h.1 16 i ≤ 255)
def Iplan (h : zH) : Prop := h.1 52 37 = h.1 5 3 ∧ (0 ≤ h.1 5 3 ∧ h.1 5 3 ≤ 12) ∧ ∀ i : Nat, (i : Int) < h.1 5 3 → h.1 74 i = h.1 39 i ∧ ((0 ≤ h.1 39 i ∧ h.1 39 i < h.1 2 10) ∨ (101 ≤ h.1 39 i ∧ h.1 39 i ≤ 340))
def offW (w : Int) : Int := if w = 0 then 12 else if w = 1 then 36 else if w = 2 then 60 else if w = 3 then 0 else 84
def numW (w : Int) : Int := if w = 3 then 12 else if w = 4 then 4 else 24
def inW (w v : Int) : Prop := if w = 1 ∨ w = 2 then 0 ≤ v ∧ v ≤ 1439 else if w = 4 then 50 ≤ v ∧ v ≤ 400 else 0 ≤ v ∧ v ≤ 999
def Ichg (h : zH) : Prop := h.1 52 5 = h.1 6 5 ∧ h.1 52 4 = h.1 6 6 ∧ (0 ≤ h.1 6 5 ∧ h.1 6 5 ≤ h.1 6 6 ∧ h.1 6 6 ≤ 40) ∧ ∀ i : Nat, (i : Int) < h.1 6 6 → (0 ≤ h.1 40 i ∧ h.1 40 i ≤ 4) ∧ (0 ≤ h.1 41 i ∧ h.1 41 i < numW (h.1 40 i)) ∧ h.1 54 i = offW (h.1 40 i) + h.1 41 i ∧ h.1 55 i = h.1 42 i ∧ h.1 56 i = h.1 43 i ∧ inW (h.1 40 i) (h.1 42 i) ∧ inW (h.1 40 i) (h.1 43 i)
def Imark (h : zH) : Prop := h.1 52 42 = h.1 0 9 ∧ (0 ≤ h.1 0 9 ∧ h.1 0 9 ≤ 6) ∧ (∀ i : Nat, (i : Int) < h.1 0 9 → h.1 75 i = h.1 15 i ∧ (0 ≤ h.1 15 i ∧ h.1 15 i / 10000 < h.1 2 8 ∧ h.1 15 i % 10000 ≤ 1439)) ∧ ∀ i : Nat, (i : Int) + 1 < h.1 0 9 → h.1 15 i % 10000 < h.1 15 (i + 1) % 10000
def Ibod (h : zH) : Prop := h.1 52 44 = h.1 7 1 ∧ (0 ≤ h.1 7 1 ∧ h.1 7 1 ≤ 50) ∧ (∀ i : Nat, (i : Int) < h.1 7 1 → h.1 76 i = h.1 44 i ∧ (0 ≤ h.1 44 i ∧ h.1 44 i ≤ 6)) ∧ h.1 52 47 = h.1 7 3 ∧ (0 ≤ h.1 7 3 ∧ h.1 7 3 ≤ 1000000) ∧ ∀ i : Nat, i < 24 → (i : Int) < h.1 7 3 → h.1 77 i = h.1 45 i ∧ inR (h.1 45 i)
def Ishf (h : zH) : Prop := ∀ k : Nat, k < 6 → (h.1 (8 + k) 0 = -1 ∧ h.1 78 k = -1) ∨ (h.1 (8 + k) 0 = 5 ∧ h.1 78 k = h.1 (8 + k) 1 ∧ 0 ≤ h.1 (8 + k) 1 ∧ h.1 (8 + k) 1 < h.1 7 1) ∨ ((0 ≤ h.1 (8 + k) 0 ∧ h.1 (8 + k) 0 ≤ 4) ∧ h.1 78 k = 50 + h.1 (8 + k) 0 ∧ h.1 79 k = h.1 (8 + k) 3 ∧ (0 ≤ h.1 (8 + k) 3 ∧ h.1 (8 + k) 3 ≤ 60) ∧ ∀ i : Nat, i < 60 → h.2 80 (60 * k + i) = h.2 (46 + k) i)
def Imisc (h : zH) : Prop := h.1 52 31 = -1 ∧ h.1 52 32 = -1 ∧ h.1 52 34 = -1
def Inv (h : zH) : Prop := VV h ∧ Ieq h ∧ Isea h ∧ Itape h ∧ Iplan h ∧ Ichg h ∧ Imark h ∧ Ibod h ∧ Ishf h ∧ Imisc h
