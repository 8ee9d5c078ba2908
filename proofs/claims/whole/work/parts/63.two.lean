/-! ===== two ===== -/
theorem l_ne_lt {x : Int64} (z : x < 0) : ¬ x = 0 := fun q => by
  subst q
  exact absurd z (by decide)
theorem l_ne_gt {x : Int64} (z : 0 < x) : ¬ x = 0 := fun q => by
  subst q
  exact absurd z (by decide)
theorem SC_S {g g2 : zH} {σ N : Nat} (hf : fr frS g g2) : SC g2 σ N = SC g σ N := by
  have e := frS_e2 hf
  obtain ⟨e1, e2, e3, e4⟩ := go_c (σ := σ) (w := 0) (m := 0) (y := 0) e
  unfold SC
  rw [e1, e2, e3, e4, wt_c e (hf 4 6 rfl).2]
/-- at place p at minute m, from a -/
def atB (S : Nat → Nat → Nat → Nat → Nat → Nat → Prop) (a : Int) (p m : Nat) : Prop := ∃ y : Nat, y < 4 ∧ RdS S (a / 10000).toNat (a % 10000).toNat p m y
/-- both are at place p at minute m -/
def bothB (h : zH) (a b c : Int) (s p m : Nat) : Prop := atB (SB h c s) a p m ∧ atB (SB h c s) b p m
/-- no meeting ahead of minute m, nor at m in a place ahead of p -/
def noMt (h : zH) (a b c : Int) (s p m : Nat) : Prop := (∀ p' m' : Nat, p' < (h.1 2 8).toNat → m' < m → ¬ bothB h a b c s p' m') ∧ ∀ p' : Nat, p' < p → ¬ bothB h a b c s p' m
def ok5 (h : zH) (a b c e f : Int) : Prop := okF h a ∧ okF h b ∧ okT h c ∧ okW h e ∧ 0 ≤ f ∧ f ≤ 1
def twoA (h : zH) (a b c e f r : Int) : Prop := (¬ ok5 h a b c e f ∧ r = -1) ∨ (ok5 h a b c e f ∧ (∀ p m : Nat, p < (h.1 2 8).toNat → m < 1440 → ¬ bothB h a b c e.toNat p m) ∧ r = -2) ∨ (ok5 h a b c e f ∧ ∃ p m : Nat, p < (h.1 2 8).toNat ∧ m < 1440 ∧ bothB h a b c e.toNat p m ∧ noMt h a b c e.toNat p m ∧ r = if f = 0 then (m : Int) else (p : Int))
theorem noMt_u {h : zH} {a b c : Int} {s p m p' m' : Nat} (h1 : p < (h.1 2 8).toNat) (h2 : bothB h a b c s p m) (h3 : noMt h a b c s p m) (h4 : p' < (h.1 2 8).toNat) (h5 : bothB h a b c s p' m') (h6 : noMt h a b c s p' m') : p = p' ∧ m = m' := by
  rcases (by omega : m < m' ∨ m' < m ∨ m = m') with q | q | q
  · exact absurd h2 (h6.1 p m h1 q)
  · exact absurd h5 (h3.1 p' m' h4 q)
  · subst q
    rcases (by omega : p < p' ∨ p' < p ∨ p = p') with q | q | q
    · exact absurd h2 (h6.2 p q)
    · exact absurd h5 (h3.2 p' q)
    · exact ⟨q, rfl⟩
theorem twoA_u {h : zH} {a b c e f r r' : Int} (x : twoA h a b c e f r) (y : twoA h a b c e f r') : r = r' := by
  rcases x with ⟨x1, x2⟩ | ⟨x1, x2, x3⟩ | ⟨x1, p, m, x2, x3, x4, x5, x6⟩ <;> rcases y with ⟨y1, y2⟩ | ⟨y1, y2, y3⟩ | ⟨y1, p', m', y2, y3, y4, y5, y6⟩
  · omega
  · exact absurd y1 x1
  · exact absurd y1 x1
  · exact absurd x1 y1
  · omega
  · exact absurd y4 (x2 p' m' y2 y3)
  · exact absurd x1 y1
  · exact absurd x4 (y2 p m x2 x3)
  · obtain ⟨rfl, rfl⟩ := noMt_u x2 x4 x5 y2 y4 y5
    rw [x6, y6]
theorem twoA_k {h g : zH} (k : kpR h g) {a b c e f r : Int} (x : twoA g a b c e f r) : twoA h a b c e f r := by
  obtain ⟨k1, k2, k3, k4⟩ := kpR_ok k
  have e1 : ok5 g a b c e f = ok5 h a b c e f := by
    unfold ok5 okW
    rw [k1, k1, k3, k4]
  have e2 : bothB g a b c e.toNat = bothB h a b c e.toNat := by
    unfold bothB SB
    rw [kpR_SZ k]
  have e3 : noMt g a b c e.toNat = noMt h a b c e.toNat := by
    unfold noMt
    rw [e2, k4]
  unfold twoA at *
  rw [e1, e2, e3, k4] at x
  exact x
theorem atB_m {S : Nat → Nat → Nat → Nat → Nat → Nat → Prop} {a : Int} {p m P : Nat} (hS : Sok S P) (h0 : (a / 10000).toNat < P) (h1 : (a % 10000).toNat < 1440) (h : atB S a p m) : (a % 10000).toNat ≤ m ∧ m < 1440 := by
  obtain ⟨y, -, hr⟩ := h
  have := RdS_in hS h0 h1 hr
  exact ⟨this.2.1, this.2.2.1⟩
set_option maxHeartbeats 2000000 in
theorem c_X5_meeting {d : Nat} (hd : 5 ≤ d) (h g : zH) (a b c : Int) (s : Nat) (hV : VV h) (hf0 : fr frK h g) (hq : QZ h g c s (-1) (-1) 0 (-1)) (ha : okF h a) (hb : okF h b) (hc : okT h c) :
    zC d k_X5_meeting [sR 4, sI a, sI b] g (fun o g2 => fr (fun c _ => c == 35 || c == 36 || c == 38) g g2 ∧ ((o = some (sI (-2)) ∧ ∀ p m : Nat, p < (h.1 2 8).toNat → m < 1440 → ¬ bothB h a b c s p m) ∨ ∃ p m : Nat, p < (h.1 2 8).toNat ∧ m < 1440 ∧ bothB h a b c s p m ∧ noMt h a b c s p m ∧ o = some (sI (10000 * (p : Int) + m)))) := by
  obtain ⟨hv1, hv2, hv3, hv4, hv5⟩ := id hV.1
  obtain ⟨a1, a2, a3⟩ := id ha
  obtain ⟨b1, b2, b3⟩ := id hb
  have hok := SZ_ok (s := s) (F := -1) (M := -1) (Y := 0) (W := -1) hV hc
  have hsp := c_X5_spread_35 (d := d - 1) (by omega) g (c / 10).toNat (h.1 2 8).toNat (h.1 2 10).toNat a (a / 10000).toNat (a % 10000).toNat 1439 0 hq.1 ⟨a1, by omega⟩ (by omega) (by omega) (by omega) (by omega) (by omega) (fun j _ q => by rw [lb_0] at q; cases q)
  refine zC_of (by decide +kernel) (Nat.le_of_ble_eq_true rfl) (fun X C E => ?_)
  have fin : ∀ g2 : zH, fr (fun c _ => c == 35 || c == 36 || c == 38) g g2 → (∀ p m : Nat, p < 12 → m < 1440 → ((∃ y : Nat, y < 4 ∧ lb (g2.2 35 m) (4 * p + y) = true) ↔ atB (SB h c s) a p m)) → (∀ p m : Nat, p < 12 → m < 1440 → ((∃ y : Nat, y < 4 ∧ lb (g2.2 36 m) (4 * p + y) = true) ↔ atB (SB h c s) b p m)) → zJ X 42 [some (sR 4), some (sI a), some (sI b), some (sI (max (a % 10000) (b % 10000)))] [] g2 := by
    intro g2 hf hA hB
    have e8 : g2.1 2 8 = h.1 2 8 := ((hf 2 8 rfl).1).trans (hf0 2 8 rfl).1
    have mins : ∀ (f1 m : Nat), m + f1 = 1440 → (∀ p' m' : Nat, p' < (h.1 2 8).toNat → m' < m → ¬ bothB h a b c s p' m') → zJ X 42 [some (sR 4), some (sI a), some (sI b), some (sI m)] [] g2 := by
      intro f1
      induction f1 with
      | zero =>
        intro m hm hno
        refine zrun_sound t_X5_meeting C E [] 60 _ _ _ _ ?_
        refine And.intro (by omega) (And.intro (by omega) (And.intro (fun _ => ?_) (fun z => absurd (by omega) z)))
        exact And.intro hf (Or.inl ⟨rfl, fun p' m' h1 h2 => hno p' m' h1 (by omega)⟩)
      | succ f1 ih =>
        intro m hm hno
        have places : ∀ (f2 p : Nat), p + f2 = (h.1 2 8).toNat → (∀ p' : Nat, p' < p → ¬ bothB h a b c s p' m) → zJ X 52 [some (sR 4), some (sI a), some (sI b), some (sI m), some (sI p)] [] g2 := by
          intro f2
          induction f2 with
          | zero =>
            intro p hp hnp
            refine zrun_sound t_X5_meeting C E [42] 60 _ _ _ _ ?_
            refine And.intro (by omega) (And.intro (by omega) (And.intro (fun _ => ?_) (fun z => absurd (by omega) z)))
            refine zJ_le (ih (m + 1) (by omega) (fun p' m' h1 h2 => ?_)) (And.intro rfl (And.intro rfl (And.intro rfl (And.intro rfl trivial)))) rfl rfl
            by_cases e : m' = m
            · subst e
              exact hnp p' (by omega)
            · exact hno p' m' h1 (by omega)
          | succ f2 ih2 =>
            intro p hp hnp
            have gA := (@and_goal (g2.2 35 m) p (by omega)).trans (hA p m (by omega) (by omega))
            have gB := (@and_goal (g2.2 36 m) p (by omega)).trans (hB p m (by omega) (by omega))
            have nxt : ¬ bothB h a b c s p m → zJ X 111 [some (sR 4), some (sI a), some (sI b), some (sI m), some (sI p)] [] g2 := by
              intro hn
              refine zrun_sound t_X5_meeting C E [52] 60 _ _ _ _ ?_
              refine zJ_le (ih2 (p + 1) (by omega) (fun p' h1 => ?_)) (And.intro rfl (And.intro rfl (And.intro rfl (And.intro rfl (And.intro rfl trivial))))) rfl rfl
              by_cases e : p' = p
              · subst e
                exact hn
              · exact hnp p' (by omega)
            have m0 : (0 : Int) ≤ (m : Int) := by omega
            have m1 : (m : Int) < 1440 := by omega
            have second : atB (SB h c s) a p m → zJ X 88 [some (sR 4), some (sI a), some (sI b), some (sI m), some (sI p), some (sL (shl64 15 (4 * (p : Int))))] [] g2 := by
              intro hAt
              have good : atB (SB h c s) b p m → zJ X 102 [some (sR 4), some (sI a), some (sI b), some (sI m), some (sI p)] [] g2 := by
                intro hBt
                refine zrun_sound t_X5_meeting C E [] 60 _ _ _ _ ?_
                exact And.intro hf (Or.inr ⟨p, m, by omega, by omega, ⟨hAt, hBt⟩, ⟨hno, hnp⟩, rfl⟩)
              refine zrun_sound t_X5_meeting C E [102, 111] 60 _ _ _ _ ?_
              refine And.intro m0 (And.intro m1 ?_)
              refine And.intro (fun z => ?_) (And.intro (fun z => ?_) (fun z => ?_))
              · refine And.intro (by decide) (And.intro (fun q => absurd q (by decide)) (fun _ => ?_))
                exact zJ_le (good (gB.mp (l_ne_lt z))) (And.intro rfl (And.intro rfl (And.intro rfl (And.intro rfl (And.intro rfl trivial))))) rfl rfl
              · refine And.intro (by decide) (And.intro (fun _ => ?_) (fun q => absurd rfl q))
                exact zJ_le (nxt (fun q => gB.mpr q.2 z)) (And.intro rfl (And.intro rfl (And.intro rfl (And.intro rfl (And.intro rfl trivial))))) rfl rfl
              · refine And.intro (by decide) (And.intro (fun q => absurd q (by decide)) (fun _ => ?_))
                exact zJ_le (good (gB.mp (l_ne_gt z))) (And.intro rfl (And.intro rfl (And.intro rfl (And.intro rfl (And.intro rfl trivial))))) rfl rfl
            refine zrun_sound t_X5_meeting C E [88, 111] 60 _ _ _ _ ?_
            refine And.intro (by omega) (And.intro (by omega) (And.intro (fun z => absurd z (by omega)) (fun _ => ?_)))
            refine And.intro m0 (And.intro m1 ?_)
            refine And.intro (fun z => ?_) (And.intro (fun z => ?_) (fun z => ?_))
            · refine And.intro (by decide) (And.intro (fun q => absurd q (by decide)) (fun _ => ?_))
              exact zJ_le (second (gA.mp (l_ne_lt z))) (And.intro rfl (And.intro rfl (And.intro rfl (And.intro rfl (And.intro rfl (And.intro rfl trivial)))))) rfl rfl
            · refine And.intro (by decide) (And.intro (fun _ => ?_) (fun q => absurd rfl q))
              exact zJ_le (nxt (fun q => gA.mpr q.1 z)) (And.intro rfl (And.intro rfl (And.intro rfl (And.intro rfl (And.intro rfl trivial))))) rfl rfl
            · refine And.intro (by decide) (And.intro (fun q => absurd q (by decide)) (fun _ => ?_))
              exact zJ_le (second (gA.mp (l_ne_gt z))) (And.intro rfl (And.intro rfl (And.intro rfl (And.intro rfl (And.intro rfl (And.intro rfl trivial)))))) rfl rfl
        refine zrun_sound t_X5_meeting C E [52] 60 _ _ _ _ ?_
        refine And.intro (by omega) (And.intro (by omega) (And.intro (fun z => absurd z (by omega)) (fun _ => ?_)))
        exact zJ_le (places (h.1 2 8).toNat 0 (by omega) (fun p' h1 => absurd h1 (by omega))) (And.intro rfl (And.intro rfl (And.intro rfl (And.intro rfl (And.intro rfl trivial))))) rfl rfl
    obtain ⟨mm, hmm⟩ : ∃ mm : Nat, max (a % 10000) (b % 10000) = mm := ⟨(max (a % 10000) (b % 10000)).toNat, by omega⟩
    rw [hmm]
    refine mins (1440 - mm) mm (by omega) (fun p' m' h1 h2 q => ?_)
    have r1 := atB_m hok (by omega) (by omega) q.1
    have r2 := atB_m hok (by omega) (by omega) q.2
    omega
  have rd : ∀ (x : Int) (p m : Nat), okF h x → p < 12 → m < 1440 → (row : Nat → Int64) → (∀ p m y : Nat, p < 12 → m ≤ 1439 → y < 4 → (lb (row m) (4 * p + y) = true ↔ RdS (SC g (c / 10).toNat (h.1 2 10).toNat) (x / 10000).toNat (x % 10000).toNat p m y)) → ((∃ y : Nat, y < 4 ∧ lb (row m) (4 * p + y) = true) ↔ atB (SB h c s) x p m) := by
    intro x p m hx hp hm row hrow
    obtain ⟨hx1, hx2, hx3⟩ := hx
    constructor
    · rintro ⟨y, hy, z⟩
      exact ⟨y, hy, (RdS_c (QZ_same hq) (SC_ok hq.1) (by omega)).mp ((hrow p m y hp (by omega) hy).mp z)⟩
    · rintro ⟨y, hy, z⟩
      exact ⟨y, hy, (hrow p m y hp (by omega) hy).mpr ((RdS_c (QZ_same hq) (SC_ok hq.1) (by omega)).mpr z)⟩
  have hd1 : d - 1 + 1 ≤ d := by omega
  refine zrun_sound t_X5_meeting C E [42] 60 _ _ _ _ ?_
  refine zcall_i (d' := d - 1) hd1 hsp ?_
  rintro o g1 ⟨hf1, ho⟩
  rcases ho with ⟨rfl, -, h2⟩ | ⟨m, rfl, h1, ⟨p, y, h2, h3⟩, -⟩
  · have hq1 := QZ_S hq hf1
    have hsp2 := c_X5_spread_36 (d := d - 1) (by omega) g1 (c / 10).toNat (h.1 2 8).toNat (h.1 2 10).toNat b (b / 10000).toNat (b % 10000).toNat 1439 0 hq1.1 ⟨b1, by omega⟩ (by omega) (by omega) (by omega) (by omega) (by omega) (fun j _ q => by rw [lb_0] at q; cases q)
    refine zcall_i (d' := d - 1) hd1 hsp2 ?_
    rintro o g2 ⟨hf2, ho⟩
    rcases ho with ⟨rfl, -, h4⟩ | ⟨m, rfl, h1, ⟨p, y, h5, h3⟩, -⟩
    · rw [SC_S hf1] at h4
      refine And.intro ⟨a1, by omega⟩ (And.intro (by decide) (And.intro ⟨b1, by omega⟩ (And.intro (by decide) ?_)))
      refine And.intro (by omega) (And.intro (by omega) (And.intro (by omega) ?_))
      have e35 : g2.2 35 = g1.2 35 := funext fun i => (hf2 35 i rfl).2
      refine zJ_le (fin g2 (fr_trans (fr_sub hf1 (fun c i q => by simp at q ⊢; omega)) (fr_sub hf2 (fun c i q => by simp at q ⊢; omega))) (fun p m hp hm => ?_) (fun p m hp hm => ?_)) (And.intro rfl (And.intro rfl (And.intro rfl (And.intro rfl trivial)))) rfl rfl
      · rw [e35]
        exact rd a p m ha hp hm (g1.2 35) (fun p m y q1 q2 q3 => h2 p m y q1 q2 q3)
      · exact rd b p m hb hp hm (g2.2 36) (fun p m y q1 q2 q3 => h4 p m y q1 q2 q3)
    · rw [lb_0] at h3
      cases h3
  · rw [lb_0] at h3
    cases h3
theorem Isea_M {g g2 : zH} (hs : Isea g) (hf : fr (fun c _ => c == 35 || c == 36 || c == 38) g g2) : Isea g2 := by
  have e := fun c (q : c ≠ 35 ∧ c ≠ 36 ∧ c ≠ 38) => (funext fun i => (hf c i (by simp; omega)).1 : g2.1 c = g.1 c)
  exact Isea_c hs (fun c a b => e c (by omega)) (e 2 (by omega)) ⟨by rw [e 3 (by omega)], by rw [e 3 (by omega)]⟩ (e 33 (by omega)) (e 34 (by omega))
set_option maxHeartbeats 1000000 in
theorem c_X8_two {d : Nat} (hd : 7 ≤ d) (h : zH) (a b c e f : Int) (ha : inR a) (hb : inR b) (hc : inR c) (he : inR e) (hf : inR f) (hV : VV h) (hI : Isea h) :
    zC d k_X8_two [sR 0, sI a, sI b, sI c, sI e, sI f] h (fun o g => fr frK h g ∧ Isea g ∧ ∃ r : Int, o = some (sI r) ∧ twoA h a b c e f r) := by
  obtain ⟨hv1, hv2, hv3, hv4, hv5⟩ := id hV.1
  have hd1 : d - 1 + 1 ≤ d := by omega
  refine zC_of (by decide +kernel) (Nat.le_of_ble_eq_true rfl) (fun X C E => zrun_sound t_X8_two C E [] 60 _ _ _ _ ?_)
  refine zcall_i (d' := d - 1) hd1 (c_X8_isFrom (by omega) h a ha hv3) ?_
  rintro _ _ ⟨rfl, rfl⟩
  refine And.intro g_in (And.intro (fun c1 => And.intro (fr_rfl _ _) (And.intro hI ⟨_, rfl, Or.inl ⟨fun z => g_f c1 z.1, rfl⟩⟩)) (fun c1 => ?_))
  refine zcall_i (d' := d - 1) hd1 (c_X8_isFrom (by omega) h b hb hv3) ?_
  rintro _ _ ⟨rfl, rfl⟩
  refine And.intro g_in (And.intro (fun c2 => And.intro (fr_rfl _ _) (And.intro hI ⟨_, rfl, Or.inl ⟨fun z => g_f c2 z.2.1, rfl⟩⟩)) (fun c2 => ?_))
  refine zcall_i (d' := d - 1) hd1 (c_X8_isSortAndTide (by omega) h c hc hv1) ?_
  rintro _ _ ⟨rfl, rfl⟩
  refine And.intro g_in (And.intro (fun c3 => And.intro (fr_rfl _ _) (And.intro hI ⟨_, rfl, Or.inl ⟨fun z => g_f c3 z.2.2.1, rfl⟩⟩)) (fun c3 => ?_))
  refine zcall_i (d' := d - 1) hd1 (c_X8_isWinds (by omega) h e he (by omega)) ?_
  rintro _ _ ⟨rfl, rfl⟩
  refine And.intro g_in (And.intro (fun c4 => And.intro (fr_rfl _ _) (And.intro hI ⟨_, rfl, Or.inl ⟨fun z => g_f c4 z.2.2.2.1, rfl⟩⟩)) (fun c4 => ?_))
  refine zcall_i (d' := d - 1) hd1 (c_X8_within h f 0 1 hf (by omega) (by omega)) ?_
  rintro _ _ ⟨rfl, rfl⟩
  refine And.intro g_in (And.intro (fun c5 => ?_) (fun c5 => And.intro (fr_rfl _ _) (And.intro hI ⟨_, rfl, Or.inl ⟨fun z => g_f c5 z.2.2.2.2, rfl⟩⟩)))
  have q1 := g_t c1
  replace q1 : okF h a := q1
  have q2 := g_t c2
  replace q2 : okF h b := q2
  have q3 := g_t c3
  replace q3 : okT h c := q3
  have q4 := g_t c4
  replace q4 : okW h e := q4
  have q5 := g_t c5
  have q : ok5 h a b c e f := ⟨q1, q2, q3, q4, q5⟩
  obtain ⟨s, n, es, es2, en, hs⟩ := winds_n q4
  refine zcall_i (d' := d - 1) hd1 (c_prepX (by omega) h c e e.toNat hV hI q3 (by omega) (by rw [es2, en]; exact hs)) ?_
  rintro _ g ⟨rfl, hf1, hs1, hq⟩
  refine zcall_i (d' := d - 1) hd1 (c_X5_meeting (by omega) h g a b c e.toNat hV hf1 hq q1 q2 q3) ?_
  rintro o g2 ⟨hf2, ho⟩
  have hf3 : fr frK h g2 := fr_trans hf1 (fr_sub hf2 (fun c i z => by simp [frK] at z ⊢; omega))
  have hs3 := Isea_M hs1 hf2
  rcases ho with ⟨rfl, hno⟩ | ⟨p, m, hp, hm, hbo, hno, rfl⟩
  · refine And.intro (by decide) (And.intro (by decide) (And.intro (fun z => absurd rfl z) (fun _ => ?_)))
    exact And.intro hf3 (And.intro hs3 ⟨_, rfl, Or.inr (Or.inl ⟨q, hno, rfl⟩)⟩)
  · refine And.intro (by omega) (And.intro (by decide) (And.intro (fun _ => ?_) (fun z => absurd z (by omega))))
    refine And.intro hf (And.intro (fun z => ?_) (fun z => ?_))
    · refine And.intro (by omega) (And.intro (by omega) ?_)
      exact And.intro hf3 (And.intro hs3 ⟨_, rfl, Or.inr (Or.inr ⟨q, p, m, hp, hm, hbo, hno, by rw [if_neg z]; omega⟩)⟩)
    · refine And.intro (by omega) (And.intro (by omega) ?_)
      exact And.intro hf3 (And.intro hs3 ⟨_, rfl, Or.inr (Or.inr ⟨q, p, m, hp, hm, hbo, hno, by rw [if_pos z]; omega⟩)⟩)
def fr73 : Nat → Nat → Bool := fun c _ => c == 73
theorem kpR_73 {h g : zH} (hf : fr fr73 h g) : kpR h g := by
  refine ⟨fun c q => funext fun i => (hf c i ?_).1, fun c q => funext fun i => (hf c i ?_).2, fun i _ _ _ _ _ => (hf 52 i ?_).1⟩
  · simp [own52] at q
    simp [fr73]
    omega
  · simp [own52] at q
    simp [fr73]
    omega
  · simp [fr73]
theorem Isea_73 {h g : zH} (hf : fr fr73 h g) (hs : Isea h) : Isea g := by
  have e := fun c (q : c ≠ 73) => (funext fun i => (hf c i (by simp [fr73]; exact q)).1 : g.1 c = h.1 c)
  exact Isea_c hs (fun c a b => e c (by omega)) (e 2 (by omega)) ⟨by rw [e 3 (by omega)], by rw [e 3 (by omega)]⟩ (e 33 (by omega)) (e 34 (by omega))
/-- the first party's row, so far -/
def t73 (g : zH) (P : Nat) (φ : Nat → Nat → Prop) (p m : Nat) : Prop := ∀ p' m' : Nat, p' < P → m' < 1440 → (p' < p ∨ (p' = p ∧ m' < m)) → (g.1 73 (1440 * p' + m') = 1 ∧ φ p' m') ∨ (g.1 73 (1440 * p' + m') = 0 ∧ ¬ φ p' m')
theorem t73_s {g : zH} {P p m : Nat} {φ : Nat → Nat → Prop} {v : Int} (ht : t73 g P φ p m) (hm : m < 1440) (hv : (v = 1 ∧ φ p m) ∨ (v = 0 ∧ ¬ φ p m)) : t73 (setI g 73 (1440 * p + m) v) P φ p (m + 1) := by
  intro p' m' h1 h2 h3
  rw [setI_at]
  by_cases e : p' = p ∧ m' = m
  · obtain ⟨rfl, rfl⟩ := e
    rw [if_pos ⟨rfl, rfl⟩]
    exact hv
  · rw [if_neg (by omega)]
    exact ht p' m' h1 h2 (by omega)
set_option maxHeartbeats 4000000 in
theorem c_X9_two {d : Nat} (hd : 7 ≤ d) (h : zH) (a b c e f : Int) (ha : inR a) (hb : inR b) (hc : inR c) (he : inR e) (hf : inR f) (hI : Inv2 h) :
    zC d k_X9_two [sR 52, sI a, sI b, sI c, sI e, sI f] h (fun o g => Inv2 g ∧ ∃ r : Int, o = some (sI r) ∧ twoA h a b c e f r) := by
  have hV := hI.1.1
  have hE := hI.1.2.1
  obtain ⟨hv1, hv2, hv3, hv4, hv5⟩ := id hV.1
  obtain ⟨x1, x2, x3, x4, x5, x6⟩ := id hE.1
  obtain ⟨m1, m2, m3⟩ := id hI.1.2.2.2.2.2.2.2.2.2
  have m4 := hI.2
  have hd1 : d - 1 + 1 ≤ d := by omega
  have g1 := c_X9_isFrom (d := d - 1) (by omega) h a ha (by omega)
  have g2 := c_X9_isFrom (d := d - 1) (by omega) h b hb (by omega)
  have g3 := c_X9_isSt (d := d - 1) (by omega) h c hc (by omega)
  have g4 := c_X9_areWinds (d := d - 1) h e he (by omega)
  rw [x3] at g1 g2
  rw [x1] at g3
  rw [x2] at g4
  have keep : ∀ {H g : zH}, kpR h H ∧ Isea H ∧ H.1 52 31 = -1 ∧ H.1 52 32 = -1 ∧ H.1 52 34 = -1 ∧ (0 ≤ H.1 52 33 ∧ H.1 52 33 ≤ 200) → fr frR H g ∨ fr fr73 H g → kpR h g ∧ Isea g ∧ g.1 52 31 = -1 ∧ g.1 52 32 = -1 ∧ g.1 52 34 = -1 ∧ (0 ≤ g.1 52 33 ∧ g.1 52 33 ≤ 200) := by
    rintro H g ⟨k, s, n1, n2, n3, n4⟩ (q | q)
    · exact ⟨kpR_t k (kpR_R q), kpR_sea q s, (q 52 31 rfl).1.trans n1, (q 52 32 rfl).1.trans n2, (q 52 34 rfl).1.trans n3, by rw [(q 52 33 rfl).1]; exact n4⟩
    · exact ⟨kpR_t k (kpR_73 q), Isea_73 q s, (q 52 31 rfl).1.trans n1, (q 52 32 rfl).1.trans n2, (q 52 34 rfl).1.trans n3, by rw [(q 52 33 rfl).1]; exact n4⟩
  have fin : ∀ {H : zH}, kpR h H ∧ Isea H ∧ H.1 52 31 = -1 ∧ H.1 52 32 = -1 ∧ H.1 52 34 = -1 ∧ (0 ≤ H.1 52 33 ∧ H.1 52 33 ≤ 200) → Inv2 H := fun ⟨k, s, n1, n2, n3, n4⟩ => kpR_I k hI s n1 n2 n3 n4
  have p20 : ∀ {H : zH}, kpR h H → H.1 52 20 = h.1 2 8 := fun k => (k.2.2 20 (by omega) (by omega) (by omega) (by omega) (by omega)).trans x3
  refine zC_of (by decide +kernel) (Nat.le_of_ble_eq_true rfl) (fun X C E => ?_)
  have third : ok5 h a b c e f → ∀ H : zH, kpR h H ∧ Isea H ∧ H.1 52 31 = -1 ∧ H.1 52 32 = -1 ∧ H.1 52 34 = -1 ∧ (0 ≤ H.1 52 33 ∧ H.1 52 33 ≤ 200) → t73 H (h.1 2 8).toNat (atB (SB h c e.toNat) a) (h.1 2 8).toNat 0 → tellsR H (h.1 2 8).toNat (RdS (SB h c e.toNat) (b / 10000).toNat (b % 10000).toNat) → zJ X 122 [some (sR 52), some (sI a), some (sI b), some (sI c), some (sI e), some (sI f), some (sI 0)] [] H := by
    intro q H hk h73 ht
    have e20 := p20 hk.1
    have mins : ∀ (f1 m : Nat), m + f1 = 1440 → (∀ p' m' : Nat, p' < (h.1 2 8).toNat → m' < m → ¬ bothB h a b c e.toNat p' m') → zJ X 122 [some (sR 52), some (sI a), some (sI b), some (sI c), some (sI e), some (sI f), some (sI m)] [] H := by
      intro f1
      induction f1 with
      | zero =>
        intro m hm hno
        refine zrun_sound t_X9_two C E [] 60 _ _ _ _ ?_
        refine And.intro (by omega) (And.intro (by omega) (And.intro (fun _ => ?_) (fun z => absurd (by omega) z)))
        exact And.intro (fin hk) ⟨_, rfl, Or.inr (Or.inl ⟨q, fun p' m' q1 q2 => hno p' m' q1 (by omega), rfl⟩)⟩
      | succ f1 ih =>
        intro m hm hno
        have places : ∀ (f2 p : Nat), p + f2 = (h.1 2 8).toNat → (∀ p' : Nat, p' < p → ¬ bothB h a b c e.toNat p' m) → zJ X 133 [some (sR 52), some (sI a), some (sI b), some (sI c), some (sI e), some (sI f), some (sI m), some (sI p)] [] H := by
          intro f2
          induction f2 with
          | zero =>
            intro p hp hnp
            refine zrun_sound t_X9_two C E [122] 60 _ _ _ _ ?_
            refine And.intro (by omega) (And.intro (by omega) (And.intro (fun _ => ?_) (fun z => absurd (by omega) z)))
            refine zJ_le (ih (m + 1) (by omega) (fun p' m' h1 h2 => ?_)) (And.intro rfl (And.intro rfl (And.intro rfl (And.intro rfl (And.intro rfl (And.intro rfl (And.intro rfl trivial))))))) rfl rfl
            by_cases e : m' = m
            · subst e
              exact hnp p' (by omega)
            · exact hno p' m' h1 (by omega)
          | succ f2 ih2 =>
            intro p hp hnp
            have tn : (1440 * (p : Int) + (m : Int)).toNat = 1440 * p + m := by omega
            have nxt : ¬ bothB h a b c e.toNat p m → zJ X 183 [some (sR 52), some (sI a), some (sI b), some (sI c), some (sI e), some (sI f), some (sI m), some (sI p)] [] H := by
              intro hn
              refine zrun_sound t_X9_two C E [133] 60 _ _ _ _ ?_
              refine zJ_le (ih2 (p + 1) (by omega) (fun p' h1 => ?_)) (And.intro rfl (And.intro rfl (And.intro rfl (And.intro rfl (And.intro rfl (And.intro rfl (And.intro rfl (And.intro rfl trivial)))))))) rfl rfl
              by_cases e : p' = p
              · subst e
                exact hn
              · exact hnp p' (by omega)
            refine zrun_sound t_X9_two C E [183] 60 _ _ _ _ ?_
            refine And.intro (by omega) (And.intro (by omega) (And.intro (fun z => absurd z (by omega)) (fun _ => ?_)))
            refine And.intro (by omega) (And.intro (by omega) ?_)
            rw [tn]
            rcases h73 p m (by omega) (by omega) (by omega) with ⟨v1, v2⟩ | ⟨v1, v2⟩
            · rw [v1]
              refine And.intro (by decide) (And.intro (fun z => absurd z (by decide)) (fun _ => ?_))
              refine zcall_i (d' := d - 1) hd1 (c_X9_isAt (by omega) H p m (h.1 2 8).toNat _ (by omega) (by omega) (by omega) ht) ?_
              rintro o g' ⟨rfl, ⟨rfl, z⟩ | ⟨rfl, z⟩⟩
              · refine And.intro (by decide) (And.intro (fun z => absurd z (by decide)) (fun _ => ?_))
                refine And.intro hf (And.intro (fun z2 => ?_) (fun z2 => ?_))
                · exact And.intro (fin hk) ⟨_, rfl, Or.inr (Or.inr ⟨q, p, m, by omega, by omega, ⟨v2, z⟩, ⟨hno, hnp⟩, by rw [if_neg z2]⟩)⟩
                · exact And.intro (fin hk) ⟨_, rfl, Or.inr (Or.inr ⟨q, p, m, by omega, by omega, ⟨v2, z⟩, ⟨hno, hnp⟩, by rw [if_pos z2]⟩)⟩
              · refine And.intro (by decide) (And.intro (fun _ => ?_) (fun z => absurd rfl z))
                exact nxt (fun z2 => z z2.2)
            · rw [v1]
              refine And.intro (by decide) (And.intro (fun _ => ?_) (fun z => absurd rfl z))
              exact nxt (fun z2 => v2 z2.1)
        refine zrun_sound t_X9_two C E [133] 60 _ _ _ _ ?_
        refine And.intro (by omega) (And.intro (by omega) (And.intro (fun z => absurd z (by omega)) (fun _ => ?_)))
        exact zJ_le (places (h.1 2 8).toNat 0 (by omega) (fun p' h1 => absurd h1 (by omega))) (And.intro rfl (And.intro rfl (And.intro rfl (And.intro rfl (And.intro rfl (And.intro rfl (And.intro rfl (And.intro rfl trivial)))))))) rfl rfl
    exact mins 1440 0 (by omega) (fun p' m' _ h2 => absurd h2 (by omega))
  have second : ok5 h a b c e f → (1 ≤ e.toNat ∧ e.toNat < 2 ^ (h.1 2 4).toNat) → ∀ (f1 p : Nat) (H : zH), p + f1 = (h.1 2 8).toNat → kpR h H ∧ Isea H ∧ H.1 52 31 = -1 ∧ H.1 52 32 = -1 ∧ H.1 52 34 = -1 ∧ (0 ≤ H.1 52 33 ∧ H.1 52 33 ≤ 200) → t73 H (h.1 2 8).toNat (atB (SB h c e.toNat) a) p 0 → tellsR H (h.1 2 8).toNat (RdS (SB h c e.toNat) (a / 10000).toNat (a % 10000).toNat) → zJ X 57 [some (sR 52), some (sI a), some (sI b), some (sI c), some (sI e), some (sI f), some (sI p)] [] H := by
    intro q hs f1
    induction f1 with
    | zero =>
      intro p H hp hk h73 ht
      have e20 := p20 hk.1
      refine zrun_sound t_X9_two C E [122] 60 _ _ _ _ ?_
      refine And.intro (by omega) (And.intro (by omega) (And.intro (fun _ => ?_) (fun z => absurd (by omega) z)))
      refine zcall_i (d' := d - 1) hd1 (c_reachK (by omega) h H b c e e.toNat hk.1 hI hk.2.2.1 hk.2.2.2.1 hk.2.2.2.2.1 hk.2.2.2.2.2 q.2.1 q.2.2.1 (by have := q.2.2.2.1.1; omega) hs) ?_
      rintro _ g ⟨rfl, hf5, ht5⟩
      refine third q g (keep hk (Or.inl hf5)) ?_ ht5
      intro p' m' h1 h2 h3
      rw [(hf5 73 _ rfl).1]
      exact h73 p' m' h1 h2 (by omega)
    | succ f1 ih =>
      intro p H0 hp hk0 h730 ht0
      have e20 := p20 hk0.1
      have inner : ∀ (f2 m : Nat) (H : zH), m + f2 = 1440 → kpR h H ∧ Isea H ∧ H.1 52 31 = -1 ∧ H.1 52 32 = -1 ∧ H.1 52 34 = -1 ∧ (0 ≤ H.1 52 33 ∧ H.1 52 33 ≤ 200) → t73 H (h.1 2 8).toNat (atB (SB h c e.toNat) a) p m → tellsR H (h.1 2 8).toNat (RdS (SB h c e.toNat) (a / 10000).toNat (a % 10000).toNat) → zJ X 69 [some (sR 52), some (sI a), some (sI b), some (sI c), some (sI e), some (sI f), some (sI p), some (sI m)] [] H := by
        intro f2
        induction f2 with
        | zero =>
          intro m H hm hk h73 ht
          refine zrun_sound t_X9_two C E [57] 60 _ _ _ _ ?_
          refine And.intro (by omega) (And.intro (by omega) (And.intro (fun _ => ?_) (fun z => absurd (by omega) z)))
          refine zJ_le (ih (p + 1) H (by omega) hk (fun p' m' h1 h2 h3 => h73 p' m' h1 h2 (by omega)) ht) (And.intro rfl (And.intro rfl (And.intro rfl (And.intro rfl (And.intro rfl (And.intro rfl (And.intro rfl trivial))))))) rfl rfl
        | succ f2 ih2 =>
          intro m H hm hk h73 ht
          have tn : (1440 * (p : Int) + (m : Int)).toNat = 1440 * p + m := by omega
          refine zrun_sound t_X9_two C E [69] 60 _ _ _ _ ?_
          refine And.intro (by omega) (And.intro (by omega) (And.intro (fun z => absurd z (by omega)) (fun _ => ?_)))
          refine zcall_i (d' := d - 1) hd1 (c_X9_isAt (by omega) H p m (h.1 2 8).toNat _ (by omega) (by omega) (by omega) ht) ?_
          have f73 : ∀ v : Int, fr fr73 H (setI H 73 (1440 * p + m) v) := fun v => fr_setI (fr_rfl _ _) rfl
          rintro o g' ⟨rfl, ⟨rfl, z⟩ | ⟨rfl, z⟩⟩
          · refine And.intro (by omega) (And.intro (by omega) (And.intro (Or.inr rfl) ?_))
            rw [tn]
            exact zJ_le (ih2 (m + 1) _ (by omega) (keep hk (Or.inr (f73 1))) (t73_s h73 (by omega) (Or.inl ⟨rfl, z⟩)) ht) (And.intro rfl (And.intro rfl (And.intro rfl (And.intro rfl (And.intro rfl (And.intro rfl (And.intro rfl (And.intro rfl trivial)))))))) rfl rfl
          · refine And.intro (by omega) (And.intro (by omega) (And.intro (Or.inl rfl) ?_))
            rw [tn]
            exact zJ_le (ih2 (m + 1) _ (by omega) (keep hk (Or.inr (f73 0))) (t73_s h73 (by omega) (Or.inr ⟨rfl, z⟩)) ht) (And.intro rfl (And.intro rfl (And.intro rfl (And.intro rfl (And.intro rfl (And.intro rfl (And.intro rfl (And.intro rfl trivial)))))))) rfl rfl
      refine zrun_sound t_X9_two C E [69] 60 _ _ _ _ ?_
      refine And.intro (by omega) (And.intro (by omega) (And.intro (fun z => absurd z (by omega)) (fun _ => ?_)))
      exact zJ_le (inner 1440 0 H0 (by omega) hk0 h730 ht0) (And.intro rfl (And.intro rfl (And.intro rfl (And.intro rfl (And.intro rfl (And.intro rfl (And.intro rfl (And.intro rfl trivial)))))))) rfl rfl
  refine zrun_sound t_X9_two C E [57] 60 _ _ _ _ ?_
  refine zcall_i (d' := d - 1) hd1 g1 ?_
  rintro _ _ ⟨rfl, rfl⟩
  refine And.intro g_in (And.intro (fun c1 => And.intro hI ⟨_, rfl, Or.inl ⟨fun z => g_f c1 z.1, rfl⟩⟩) (fun c1 => ?_))
  refine zcall_i (d' := d - 1) hd1 g2 ?_
  rintro _ _ ⟨rfl, rfl⟩
  refine And.intro g_in (And.intro (fun c2 => And.intro hI ⟨_, rfl, Or.inl ⟨fun z => g_f c2 z.2.1, rfl⟩⟩) (fun c2 => ?_))
  refine zcall_i (d' := d - 1) hd1 g3 ?_
  rintro _ _ ⟨rfl, rfl⟩
  refine And.intro g_in (And.intro (fun c3 => And.intro hI ⟨_, rfl, Or.inl ⟨fun z => g_f c3 z.2.2.1, rfl⟩⟩) (fun c3 => ?_))
  refine zcall_i (d' := d - 1) hd1 g4 ?_
  rintro _ _ ⟨rfl, rfl⟩
  refine And.intro g_in (And.intro (fun c4 => And.intro hI ⟨_, rfl, Or.inl ⟨fun z => g_f c4 z.2.2.2.1, rfl⟩⟩) (fun c4 => ?_))
  refine zcall_i (d' := d - 1) hd1 (c_X9_within h (i2l f) 0 1 f 0 1 (i2l_toInt hf) (by decide) (by decide)) ?_
  rintro _ _ ⟨rfl, rfl⟩
  refine And.intro g_in (And.intro (fun c5 => ?_) (fun c5 => And.intro hI ⟨_, rfl, Or.inl ⟨fun z => g_f c5 z.2.2.2.2, rfl⟩⟩))
  have q1 := g_t c1
  replace q1 : okF h a := q1
  have q2 := g_t c2
  replace q2 : okF h b := q2
  have q3 := g_t c3
  replace q3 : okT h c := q3
  have q4 := g_t c4
  replace q4 : okW h e := q4
  have q5 := g_t c5
  have q : ok5 h a b c e f := ⟨q1, q2, q3, q4, q5⟩
  obtain ⟨s, n, es, es2, en, hs⟩ := winds_n q4
  have hs' : 1 ≤ e.toNat ∧ e.toNat < 2 ^ (h.1 2 4).toNat := by rw [es2, en]; exact hs
  refine zcall_i (d' := d - 1) hd1 (c_reachK (by omega) h h a c e e.toNat (kpR_0 h) hI m1 m2 m3 m4 q1 q3 (by omega) hs') ?_
  rintro _ g ⟨rfl, hf5, ht5⟩
  exact zJ_le (second q hs' (h.1 2 8).toNat 0 g (by omega) (keep ⟨kpR_0 h, hI.1.2.2.1, m1, m2, m3, m4⟩ (Or.inl hf5)) (fun p' m' _ _ h3 => by omega) ht5) (And.intro rfl (And.intro rfl (And.intro rfl (And.intro rfl (And.intro rfl (And.intro rfl (And.intro rfl trivial))))))) rfl rfl
theorem pr_two {d : Nat} (hd : 7 ≤ d) {a b c e f : Int} (ha : inR a) (hb : inR b) (hc : inR c) (he : inR e) (hf : inR f) : Pair2 d k_X8_two k_X9_two [sI a, sI b, sI c, sI e, sI f] := fun h hI => by
  refine zC_mono (c_X8_two hd h a b c e f ha hb hc he hf hI.1.1 hI.1.2.2.1) ?_
  rintro o g ⟨hf', hs, r, rfl, hr⟩
  refine ⟨r, rfl, zC_mono (c_X9_two hd g a b c e f ha hb hc he hf (Inv_K hI hs hf')) ?_⟩
  rintro o g' ⟨hI', r', rfl, hr'⟩
  rw [twoA_u hr (twoA_k (kpR_K hf') hr')]
  exact ⟨rfl, hI'⟩
