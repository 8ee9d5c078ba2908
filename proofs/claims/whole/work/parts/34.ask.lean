/-! ===== what is asked of the day: both sides' first questions ===== -/
theorem g_t {G : Prop} [Decidable G] (c : ¬ (if G then (1 : Int) else 0) = 0) : G := Classical.byContradiction (fun q => c (if_neg q))
theorem g_f {G : Prop} [Decidable G] (c : (if G then (1 : Int) else 0) = 0) : ¬ G := fun q => by
  rw [if_pos q] at c
  omega
theorem g_in {G : Prop} [Decidable G] : inR (if G then (1 : Int) else 0) := by
  split <;> omega
theorem TOK_c {pt pt' P P' Q Q' : Nat → Int} {t : Nat} (ht : t < 10) (hok : TOK pt P Q t) (h1 : pt t = pt' t) (h2 : ∀ i, i < 120 → P i = P' i) (h3 : ∀ i, i < 120 → Q i = Q' i) : TOK pt' P' Q' t := by
  obtain ⟨a, b, c⟩ := hok
  unfold TOK
  rw [← h1]
  refine ⟨a, fun k hk => ?_, fun k hk => ?_⟩
  · rw [← h2 _ (by omega), ← h3 _ (by omega)]
    exact b k hk
  · rw [← h2 _ (by omega), ← h2 _ (by omega)]
    exact c k hk
def Imw (h : zH) : Prop := (-1 ≤ h.1 52 31 ∧ h.1 52 31 ≤ 24) ∧ (-1 ≤ h.1 52 32 ∧ h.1 52 32 ≤ 24) ∧ (0 ≤ h.1 52 33 ∧ h.1 52 33 ≤ 200) ∧ (-1 ≤ h.1 52 34 ∧ h.1 52 34 ≤ 12)
theorem may_b {h : zH} (hV : VV h) (hE : Ieq h) : ∀ i : Nat, i < 88 → 0 ≤ h.1 53 i ∧ h.1 53 i ≤ 1439 := by
  obtain ⟨-, -, -, hp, -, hh, hs⟩ := hV
  obtain ⟨-, -, -, -, e4, e5, e6⟩ := hE
  intro i hi
  by_cases c1 : i < 12
  · rw [e4 i c1]
    have := hp i c1
    omega
  · by_cases c2 : i < 36
    · have q1 := (e5 (i - 12) (by omega)).2.2.2.1
      have q2 := (hh (i - 12) (by omega)).1
      rw [show 12 + (i - 12) = i by omega] at q1
      omega
    · by_cases c3 : i < 60
      · have q1 := (e5 (i - 36) (by omega)).2.2.2.2.1
        have q2 := (hh (i - 36) (by omega)).2.1
        rw [show 36 + (i - 36) = i by omega] at q1
        omega
      · by_cases c4 : i < 84
        · have q1 := (e5 (i - 60) (by omega)).2.2.2.2.2
          have q2 := (hh (i - 60) (by omega)).2.2
          rw [show 60 + (i - 60) = i by omega] at q1
          omega
        · have q1 := e6 (i - 84) (by omega)
          have q2 := hs (i - 84) (by omega)
          rw [show 84 + (i - 84) = i by omega] at q1
          omega
theorem VR_of {h : zH} {t n P N : Nat} (hV : VV h) (hE : Ieq h) (hW : Imw h) (ht : (t : Int) < h.1 2 0) (hn : h.1 2 4 = n) (hP : h.1 2 8 = P) (hN : h.1 2 10 = N) : VR h t n P N := by
  have hb := may_b hV hE
  obtain ⟨⟨hv1, hv2, hv3, hv4, -⟩, hVt, hVw, -⟩ := hV
  obtain ⟨⟨a1, a2, a3, a4, -⟩, e1, e2, e3, -⟩ := hE
  obtain ⟨w1, w2, w3, w4⟩ := hW
  refine ⟨by omega, by omega, by omega, by omega, by omega, by omega, by omega, TOK_c (by omega) (hVt t ht) (e1 t (by omega)).symm (fun i hi => (e2 i hi).1.symm) (fun i hi => (e2 i hi).2.symm), fun w hw => ?_, hb, by omega, w3⟩
  rw [(e3 w (by omega)).1, (e3 w (by omega)).2.1]
  exact ⟨(hVw w (by omega)).1, (hVw w (by omega)).2.1⟩
theorem RB_of {h : zH} {σ P N : Nat} (hV : VV h) (hE : Ieq h) (hW : Imw h) (hσ : σ < 4) (hP : h.1 2 8 = P) (hN : h.1 2 10 = N) : RB h σ P N := by
  have hb := may_b hV hE
  obtain ⟨⟨hv1, hv2, hv3, hv4, -⟩, hVt, hVw, -, hVy, -, hVs⟩ := hV
  obtain ⟨⟨a1, a2, a3, a4, -⟩, e1, e2, e3, -, e5, e6⟩ := hE
  obtain ⟨w1, w2, w3, w4⟩ := hW
  refine ⟨by omega, by omega, hσ, by omega, by omega, fun w hw => ?_, fun w hw => ?_, ?_, by omega, by omega, fun w hw => ⟨hb _ (by omega), hb _ (by omega)⟩⟩
  · rw [(e5 w (by omega)).1, (e5 w (by omega)).2.1, ← hP]
    exact ⟨(hVy w (by omega)).1, (hVy w (by omega)).2.1, (hVy w (by omega)).2.2.1⟩
  · rw [(e5 w (by omega)).2.2.1]
    exact (hVy w (by omega)).2.2.2
  · rw [e6 σ hσ]
    exact hVs σ hσ
theorem Imw_of {h : zH} (hM : Imisc h) (hb : 0 ≤ h.1 52 33 ∧ h.1 52 33 ≤ 200) : Imw h := by
  obtain ⟨a, b, c⟩ := hM
  exact ⟨by omega, by omega, hb, by omega⟩
/-- the reference's steps, nothing free and nothing raised -/
theorem SR_D {h : zH} {σ t s n N P : Nat} (hV : VV h) (hE : Ieq h) (hM : Imisc h) (hσ : σ < 4) (ht : (t : Int) < h.1 2 0) (hn : h.1 2 4 = n) (hN : h.1 2 10 = N) (hP : h.1 2 8 = P) (hs : 1 ≤ s ∧ s < 2 ^ n) : sameS P (SR h σ N (hiR h t s n) (beR h)) (SQ h σ t s n N (h.1 30) (h.1 31) (h.1 29) (-1)) := by
  have a := SR_Q hV hE hσ ht hn hN hP hs
  obtain ⟨m1, m2, m3⟩ := hM
  rw [m3] at a
  have hN24 := hV.1.2.2.2.1
  have e5 := hE.2.2.2.2.2.1
  refine sameS_t a (SQ_c (fun c _ _ _ _ _ => rfl) (fun w q => ?_) (fun w q => ?_) (fun w q => ?_))
  · unfold fsR
    rw [m1, if_neg (by omega)]
    exact (e5 w (by omega)).2.2.2.2.1
  · unfold lsR
    rw [m1, if_neg (by omega)]
    exact (e5 w (by omega)).2.2.2.2.2
  · unfold beR
    rw [m2, if_neg (by omega), Int.add_zero]
    exact (e5 w (by omega)).2.2.2.1
def frK : Nat → Nat → Bool := fun c i => c == 33 || c == 34 || c == 35 || c == 36 || c == 37 || c == 38 || (c == 3 && (i == 3 || i == 4)) || (c == 4 && i == 6)
theorem frK_P {h g : zH} (a : fr frP h g) : fr frK h g := fr_sub a (fun c i q => by simp [frK, frP] at q ⊢; omega)
theorem frK_S {h g : zH} (a : fr (fun c _ => c == 35 || c == 38) h g) : fr frK h g := fr_sub a (fun c i q => by simp [frK] at q ⊢; omega)
theorem frK_e {h g : zH} (a : fr frK h g) : ∀ c, 4 < c → (c < 33 ∨ 38 < c) → g.1 c = h.1 c := fun c h1 h2 => funext fun i => (a c i (by simp [frK]; omega)).1
theorem frK_2 {h g : zH} (a : fr frK h g) : ∀ c, c < 3 → g.1 c = h.1 c := fun c h1 => funext fun i => (a c i (by simp [frK]; omega)).1
theorem Isea_c {h g : zH} (hI : Isea h) (e : ∀ c, 19 ≤ c → c ≤ 23 → g.1 c = h.1 c) (e2 : g.1 2 = h.1 2) (e3 : g.1 3 3 = h.1 3 3 ∧ g.1 3 4 = h.1 3 4) (e4 : g.1 33 = h.1 33) (e5 : g.1 34 = h.1 34) : Isea g := by
  rcases hI with q | ⟨t, s, n, a1, a2, a3, a4, a5, a6, a7, a8⟩
  · exact Or.inl (by rw [e3.1]; exact q)
  · refine Or.inr ⟨t, s, n, by rw [e3.1]; exact a1, by rw [e3.2]; exact a2, by rw [e2]; exact a3, by rw [e2]; exact a4, a5, a6, fun m hm => ?_, fun m hm => ?_⟩
    · rw [e4, e 19 (by omega) (by omega), e 20 (by omega) (by omega), e 21 (by omega) (by omega)]
      exact a7 m hm
    · unfold seaC
      rw [e5, e 19 (by omega) (by omega), e 20 (by omega) (by omega), e 21 (by omega) (by omega), e 22 (by omega) (by omega), e 23 (by omega) (by omega)]
      exact a8 m hm
theorem Isea_S {h g : zH} (hI : Isea h) (a : fr (fun c _ => c == 35 || c == 38) h g) : Isea g := by
  have e := fun c (q : c ≠ 35 ∧ c ≠ 38) => (funext fun i => (a c i (by simp; omega)).1 : g.1 c = h.1 c)
  exact Isea_c hI (fun c _ _ => e c (by omega)) (e 2 (by omega)) ⟨by rw [e 3 (by omega)], by rw [e 3 (by omega)]⟩ (e 33 (by omega)) (e 34 (by omega))
def PQ (h g : zH) (σ t s n P N : Nat) : Prop := fr frP h g ∧ SP g σ P N ∧ g.2 4 6 = -1 ∧ Isea g ∧ (∀ m : Nat, m < 1440 → g.1 34 m = hiQ h t s n m)
theorem PQ_S {h g : zH} {σ t s n P N : Nat} (hq : PQ h g σ t s n P N) : sameS P (SC g σ N) (SQ h σ t s n N (h.1 30) (h.1 31) (h.1 29) (-1)) := by
  obtain ⟨hf, hS, h6, -, h34⟩ := hq
  have e := fun c (q : ∀ i, frP c i = false) => (funext fun i => (hf c i (q i)).1 : g.1 c = h.1 c)
  have hP := hS.2.2.2.1
  refine SC_Q hP (e 25 (fun _ => rfl)) (e 26 (fun _ => rfl)) (e 27 (fun _ => rfl)) (e 28 (fun _ => rfl)) (e 32 (fun _ => rfl)) (fun w _ => by rw [e 30 (fun _ => rfl)]) (fun w _ => by rw [e 31 (fun _ => rfl)]) (fun w _ => by rw [e 29 (fun _ => rfl)]) h34 (fun p y a b => ?_)
  rw [h6, lb_m1 _ (by omega)]
  exact ⟨fun _ => by omega, fun _ => rfl⟩
theorem c_prep {d : Nat} (hd : 4 ≤ d) (h : zH) (st s' : Int) (σ t s n P N : Nat) (hV : VV h) (hI : Isea h) (hst : 0 ≤ st ∧ st ≤ 39) (e1 : st / 10 = σ) (e2 : st % 10 = t) (ht : (t : Int) < h.1 2 0) (hn : h.1 2 4 = n) (es : s' = s) (hs : 1 ≤ s ∧ s < 2 ^ n) (hP : h.1 2 8 = P) (hN : h.1 2 10 = N) :
    zC d k_X5_prepare [sR 4, sI st, sI s'] h (fun o g => o = none ∧ PQ h g σ t s n P N) := by
  subst es
  refine zC_mono (c_X5_prepare hd h st σ t s n P N hV hI hst e1 e2 ht hn hs hP hN) ?_
  rintro o g ⟨a1, a2, a3, a4, a5, a6, a7, a8⟩
  have e := fun c (q : ∀ i, frP c i = false) => (funext fun i => (a2 c i (q i)).1 : g.1 c = h.1 c)
  refine ⟨a1, a2, a3, a4, Or.inr ⟨t, s, n, a5, a6, ?_, ?_, hs.1, hs.2, ?_, ?_⟩, a8⟩
  · rw [e 2 (fun _ => rfl)]; exact hn
  · rw [e 2 (fun _ => rfl)]; exact ht
  · rw [e 19 (fun _ => rfl), e 20 (fun _ => rfl), e 21 (fun _ => rfl)]
    exact a7
  · unfold seaC
    rw [e 19 (fun _ => rfl), e 20 (fun _ => rfl), e 21 (fun _ => rfl), e 22 (fun _ => rfl), e 23 (fun _ => rfl)]
    exact a8
def okF (h : zH) (a : Int) : Prop := 0 ≤ a ∧ a / 10000 < h.1 2 8 ∧ a % 10000 ≤ 1439
def okP (h : zH) (a : Int) : Prop := 0 ≤ a ∧ a < h.1 2 8
def okY (h : zH) (a : Int) : Prop := 0 ≤ a ∧ a < h.1 2 10
def okT (h : zH) (a : Int) : Prop := 0 ≤ a ∧ a / 10 ≤ 3 ∧ a % 10 < h.1 2 0
def okW (h : zH) (a : Int) : Prop := 1 ≤ a ∧ a < ((2 ^ (h.1 2 4).toNat : Nat) : Int)
def ok2 (h : zH) (a : Int) : Prop := 0 ≤ a ∧ a / 100 < h.1 2 8 ∧ a % 100 < h.1 2 8 ∧ a / 100 ≠ a % 100
def SD (h : zH) (st s : Int) : Nat → Nat → Nat → Nat → Nat → Nat → Prop := SQ h (st / 10).toNat (st % 10).toNat s.toNat (h.1 2 4).toNat (h.1 2 10).toNat (h.1 30) (h.1 31) (h.1 29) (-1)
def soonA (h : zH) (a b c s r : Int) : Prop := (¬ (okF h a ∧ okP h b ∧ okT h c ∧ okW h s) ∧ r = -1) ∨ ((okF h a ∧ okP h b ∧ okT h c ∧ okW h s) ∧ soonR (SD h c s) (a / 10000).toNat (a % 10000).toNat b.toNat 1439 r)
theorem soonA_u {h : zH} {a b c s r r' : Int} (x : soonA h a b c s r) (y : soonA h a b c s r') : r = r' := by
  rcases x with ⟨x1, x2⟩ | ⟨x1, x2⟩
  · rcases y with ⟨y1, y2⟩ | ⟨y1, y2⟩
    · omega
    · exact absurd y1 x1
  · rcases y with ⟨y1, y2⟩ | ⟨y1, y2⟩
    · exact absurd x1 y1
    · exact soonR_u x2 y2
def lastA (h : zH) (a c s r : Int) : Prop := (¬ (ok2 h a ∧ okT h c ∧ okW h s) ∧ r = -1) ∨ ((ok2 h a ∧ okT h c ∧ okW h s) ∧ lastR (SD h c s) (a / 100).toNat (a % 100).toNat (h.1 2 18).toNat (h.1 2 19).toNat r)
theorem lastA_u {h : zH} {a c s r r' : Int} (x : lastA h a c s r) (y : lastA h a c s r') : r = r' := by
  rcases x with ⟨x1, x2⟩ | ⟨x1, x2⟩
  · rcases y with ⟨y1, y2⟩ | ⟨y1, y2⟩
    · omega
    · exact absurd y1 x1
  · rcases y with ⟨y1, y2⟩ | ⟨y1, y2⟩
    · exact absurd x1 y1
    · exact lastR_u x2 y2
