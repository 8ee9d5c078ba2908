/-! ===== two ===== -/
theorem l_ne_lt {x : Int64} (z : x < 0) : ¬ x = 0 := fun q => by
  subst q
  exact absurd z (by decide)
theorem l_ne_gt {x : Int64} (z : 0 < x) : ¬ x = 0 := fun q => by
  subst q
  exact absurd z (by decide)
theorem SC_S {g g2 : zH} {σ N : Nat} (hf : fr frS g g2) : SC g2 σ N = SC g σ N := by
  have e := frS_e2 hf
  obtain ⟨e1, e2, e3, e4⟩ := go_c (σ := σ) (w := 0) (m := 0) (y := 0) e
  unfold SC
  rw [e1, e2, e3, e4, wt_c e (hf 4 6 rfl).2]
/-- at place p at minute m, from a -/
def atB (S : Nat → Nat → Nat → Nat → Nat → Nat → Prop) (a : Int) (p m : Nat) : Prop := ∃ y : Nat, y < 4 ∧ RdS S (a / 10000).toNat (a % 10000).toNat p m y
/-- both are at place p at minute m -/
def bothB (h : zH) (a b c : Int) (s p m : Nat) : Prop := atB (SB h c s) a p m ∧ atB (SB h c s) b p m
/-- no meeting ahead of minute m, nor at m in a place ahead of p -/
def noMt (h : zH) (a b c : Int) (s p m : Nat) : Prop := (∀ p' m' : Nat, p' < (h.1 2 8).toNat → m' < m → ¬ bothB h a b c s p' m') ∧ ∀ p' : Nat, p' < p → ¬ bothB h a b c s p' m
def ok5 (h : zH) (a b c e f : Int) : Prop := okF h a ∧ okF h b ∧ okT h c ∧ okW h e ∧ 0 ≤ f ∧ f ≤ 1
def twoA (h : zH) (a b c e f r : Int) : Prop := (¬ ok5 h a b c e f ∧ r = -1) ∨ (ok5 h a b c e f ∧ (∀ p m : Nat, p < (h.1 2 8).toNat → m < 1440 → ¬ bothB h a b c e.toNat p m) ∧ r = -2) ∨ (ok5 h a b c e f ∧ ∃ p m : Nat, p < (h.1 2 8).toNat ∧ m < 1440 ∧ bothB h a b c e.toNat p m ∧ noMt h a b c e.toNat p m ∧ r = if f = 0 then (m : Int) else (p : Int))
theorem noMt_u {h : zH} {a b c : Int} {s p m p' m' : Nat} (h1 : p < (h.1 2 8).toNat) (h2 : bothB h a b c s p m) (h3 : noMt h a b c s p m) (h4 : p' < (h.1 2 8).toNat) (h5 : bothB h a b c s p' m') (h6 : noMt h a b c s p' m') : p = p' ∧ m = m' := by
  rcases (by omega : m < m' ∨ m' < m ∨ m = m') with q | q | q
  · exact absurd h2 (h6.1 p m h1 q)
  · exact absurd h5 (h3.1 p' m' h4 q)
  · subst q
    rcases (by omega : p < p' ∨ p' < p ∨ p = p') with q | q | q
    · exact absurd h2 (h6.2 p q)
    · exact absurd h5 (h3.2 p' q)
    · exact ⟨q, rfl⟩
theorem twoA_u {h : zH} {a b c e f r r' : Int} (x : twoA h a b c e f r) (y : twoA h a b c e f r') : r = r' := by
  rcases x with ⟨x1, x2⟩ | ⟨x1, x2, x3⟩ | ⟨x1, p, m, x2, x3, x4, x5, x6⟩ <;> rcases y with ⟨y1, y2⟩ | ⟨y1, y2, y3⟩ | ⟨y1, p', m', y2, y3, y4, y5, y6⟩
  · omega
  · exact absurd y1 x1
  · exact absurd y1 x1
  · exact absurd x1 y1
  · omega
  · exact absurd y4 (x2 p' m' y2 y3)
  · exact absurd x1 y1
  · exact absurd x4 (y2 p m x2 x3)
  · obtain ⟨rfl, rfl⟩ := noMt_u x2 x4 x5 y2 y4 y5
    rw [x6, y6]
theorem twoA_k {h g : zH} (k : kpR h g) {a b c e f r : Int} (x : twoA g a b c e f r) : twoA h a b c e f r := by
  obtain ⟨k1, k2, k3, k4⟩ := kpR_ok k
  have e1 : ok5 g a b c e f = ok5 h a b c e f := by
    unfold ok5 okW
    rw [k1, k1, k3, k4]
  have e2 : bothB g a b c e.toNat = bothB h a b c e.toNat := by
    unfold bothB SB
    rw [kpR_SZ k]
  have e3 : noMt g a b c e.toNat = noMt h a b c e.toNat := by
    unfold noMt
    rw [e2, k4]
  unfold twoA at *
  rw [e1, e2, e3, k4] at x
  exact x
theorem atB_m {S : Nat → Nat → Nat → Nat → Nat → Nat → Prop} {a : Int} {p m P : Nat} (hS : Sok S P) (h0 : (a / 10000).toNat < P) (h1 : (a % 10000).toNat < 1440) (h : atB S a p m) : (a % 10000).toNat ≤ m ∧ m < 1440 := by
  obtain ⟨y, -, hr⟩ := h
  have := RdS_in hS h0 h1 hr
  exact ⟨this.2.1, this.2.2.1⟩
set_option maxHeartbeats 2000000 in
theorem c_X5_meeting {d : Nat} (hd : 5 ≤ d) (h g : zH) (a b c : Int) (s : Nat) (hV : VV h) (hf0 : fr frK h g) (hq : QZ h g c s (-1) (-1) 0 (-1)) (ha : okF h a) (hb : okF h b) (hc : okT h c) :
    zC d k_X5_meeting [sR 4, sI a, sI b] g (fun o g2 => fr (fun c _ => c == 35 || c == 36 || c == 38) g g2 ∧ ((o = some (sI (-2)) ∧ ∀ p m : Nat, p < (h.1 2 8).toNat → m < 1440 → ¬ bothB h a b c s p m) ∨ ∃ p m : Nat, p < (h.1 2 8).toNat ∧ m < 1440 ∧ bothB h a b c s p m ∧ noMt h a b c s p m ∧ o = some (sI (10000 * (p : Int) + m)))) := by
  obtain ⟨hv1, hv2, hv3, hv4, hv5⟩ := id hV.1
  obtain ⟨a1, a2, a3⟩ := id ha
  obtain ⟨b1, b2, b3⟩ := id hb
  have hok := SZ_ok (s := s) (F := -1) (M := -1) (Y := 0) (W := -1) hV hc
  have hsp := c_X5_spread_35 (d := d - 1) (by omega) g (c / 10).toNat (h.1 2 8).toNat (h.1 2 10).toNat a (a / 10000).toNat (a % 10000).toNat 1439 0 hq.1 ⟨a1, by omega⟩ (by omega) (by omega) (by omega) (by omega) (by omega) (fun j _ q => by rw [lb_0] at q; cases q)
  refine zC_of (by decide +kernel) (Nat.le_of_ble_eq_true rfl) (fun X C E => ?_)
  have fin : ∀ g2 : zH, fr (fun c _ => c == 35 || c == 36 || c == 38) g g2 → (∀ p m : Nat, p < 12 → m < 1440 → ((∃ y : Nat, y < 4 ∧ lb (g2.2 35 m) (4 * p + y) = true) ↔ atB (SB h c s) a p m)) → (∀ p m : Nat, p < 12 → m < 1440 → ((∃ y : Nat, y < 4 ∧ lb (g2.2 36 m) (4 * p + y) = true) ↔ atB (SB h c s) b p m)) → zJ X 42 [some (sR 4), some (sI a), some (sI b), some (sI (max (a % 10000) (b % 10000)))] [] g2 := by
    intro g2 hf hA hB
    have e8 : g2.1 2 8 = h.1 2 8 := ((hf 2 8 rfl).1).trans (hf0 2 8 rfl).1
    have mins : ∀ (f1 m : Nat), m + f1 = 1440 → (∀ p' m' : Nat, p' < (h.1 2 8).toNat → m' < m → ¬ bothB h a b c s p' m') → zJ X 42 [some (sR 4), some (sI a), some (sI b), some (sI m)] [] g2 := by
      intro f1
      induction f1 with
      | zero =>
        intro m hm hno
        refine zrun_sound t_X5_meeting C E [] 60 _ _ _ _ ?_
        refine And.intro (by omega) (And.intro (by omega) (And.intro (fun _ => ?_) (fun z => absurd (by omega) z)))
        exact And.intro hf (Or.inl ⟨rfl, fun p' m' h1 h2 => hno p' m' h1 (by omega)⟩)
      | succ f1 ih =>
        intro m hm hno
        have places : ∀ (f2 p : Nat), p + f2 = (h.1 2 8).toNat → (∀ p' : Nat, p' < p → ¬ bothB h a b c s p' m) → zJ X 52 [some (sR 4), some (sI a), some (sI b), some (sI m), some (sI p)] [] g2 := by
          intro f2
          induction f2 with
          | zero =>
            intro p hp hnp
            refine zrun_sound t_X5_meeting C E [42] 60 _ _ _ _ ?_
            refine And.intro (by omega) (And.intro (by omega) (And.intro (fun _ => ?_) (fun z => absurd (by omega) z)))
            refine zJ_le (ih (m + 1) (by omega) (fun p' m' h1 h2 => ?_)) (And.intro rfl (And.intro rfl (And.intro rfl (And.intro rfl trivial)))) rfl rfl
            by_cases e : m' = m
            · subst e
              exact hnp p' (by omega)
            · exact hno p' m' h1 (by omega)
          | succ f2 ih2 =>
            intro p hp hnp
            have gA := (@and_goal (g2.2 35 m) p (by omega)).trans (hA p m (by omega) (by omega))
            have gB := (@and_goal (g2.2 36 m) p (by omega)).trans (hB p m (by omega) (by omega))
            have nxt : ¬ bothB h a b c s p m → zJ X 111 [some (sR 4), some (sI a), some (sI b), some (sI m), some (sI p)] [] g2 := by
              intro hn
              refine zrun_sound t_X5_meeting C E [52] 60 _ _ _ _ ?_
              refine zJ_le (ih2 (p + 1) (by omega) (fun p' h1 => ?_)) (And.intro rfl (And.intro rfl (And.intro rfl (And.intro rfl (And.intro rfl trivial))))) rfl rfl
              by_cases e : p' = p
              · subst e
                exact hn
              · exact hnp p' (by omega)
            have m0 : (0 : Int) ≤ (m : Int) := by omega
            have m1 : (m : Int) < 1440 := by omega
            have second : atB (SB h c s) a p m → zJ X 88 [some (sR 4), some (sI a), some (sI b), some (sI m), some (sI p), some (sL (shl64 15 (4 * (p : Int))))] [] g2 := by
              intro hAt
              have good : atB (SB h c s) b p m → zJ X 102 [some (sR 4), some (sI a), some (sI b), some (sI m), some (sI p)] [] g2 := by
                intro hBt
                refine zrun_sound t_X5_meeting C E [] 60 _ _ _ _ ?_
                exact And.intro hf (Or.inr ⟨p, m, by omega, by omega, ⟨hAt, hBt⟩, ⟨hno, hnp⟩, rfl⟩)
              refine zrun_sound t_X5_meeting C E [102, 111] 60 _ _ _ _ ?_
              refine And.intro m0 (And.intro m1 ?_)
              refine And.intro (fun z => ?_) (And.intro (fun z => ?_) (fun z => ?_))
              · refine And.intro (by decide) (And.intro (fun q => absurd q (by decide)) (fun _ => ?_))
                exact zJ_le (good (gB.mp (l_ne_lt z))) (And.intro rfl (And.intro rfl (And.intro rfl (And.intro rfl (And.intro rfl trivial))))) rfl rfl
              · refine And.intro (by decide) (And.intro (fun _ => ?_) (fun q => absurd rfl q))
                exact zJ_le (nxt (fun q => gB.mpr q.2 z)) (And.intro rfl (And.intro rfl (And.intro rfl (And.intro rfl (And.intro rfl trivial))))) rfl rfl
              · refine And.intro (by decide) (And.intro (fun q => absurd q (by decide)) (fun _ => ?_))
                exact zJ_le (good (gB.mp (l_ne_gt z))) (And.intro rfl (And.intro rfl (And.intro rfl (And.intro rfl (And.intro rfl trivial))))) rfl rfl
            refine zrun_sound t_X5_meeting C E [88, 111] 60 _ _ _ _ ?_
            refine And.intro (by omega) (And.intro (by omega) (And.intro (fun z => absurd z (by omega)) (fun _ => ?_)))
            refine And.intro m0 (And.intro m1 ?_)
            refine And.intro (fun z => ?_) (And.intro (fun z => ?_) (fun z => ?_))
            · refine And.intro (by decide) (And.intro (fun q => absurd q (by decide)) (fun _ => ?_))
              exact zJ_le (second (gA.mp (l_ne_lt z))) (And.intro rfl (And.intro rfl (And.intro rfl (And.intro rfl (And.intro rfl (And.intro rfl trivial)))))) rfl rfl
            · refine And.intro (by decide) (And.intro (fun _ => ?_) (fun q => absurd rfl q))
              exact zJ_le (nxt (fun q => gA.mpr q.1 z)) (And.intro rfl (And.intro rfl (And.intro rfl (And.intro rfl (And.intro rfl trivial))))) rfl rfl
            · refine And.intro (by decide) (And.intro (fun q => absurd q (by decide)) (fun _ => ?_))
              exact zJ_le (second (gA.mp (l_ne_gt z))) (And.intro rfl (And.intro rfl (And.intro rfl (And.intro rfl (And.intro rfl (And.intro rfl trivial)))))) rfl rfl
        refine zrun_sound t_X5_meeting C E [52] 60 _ _ _ _ ?_
        refine And.intro (by omega) (And.intro (by omega) (And.intro (fun z => absurd z (by omega)) (fun _ => ?_)))
        exact zJ_le (places (h.1 2 8).toNat 0 (by omega) (fun p' h1 => absurd h1 (by omega))) (And.intro rfl (And.intro rfl (And.intro rfl (And.intro rfl (And.intro rfl trivial))))) rfl rfl
    obtain ⟨mm, hmm⟩ : ∃ mm : Nat, max (a % 10000) (b % 10000) = mm := ⟨(max (a % 10000) (b % 10000)).toNat, by omega⟩
    rw [hmm]
    refine mins (1440 - mm) mm (by omega) (fun p' m' h1 h2 q => ?_)
    have r1 := atB_m hok (by omega) (by omega) q.1
    have r2 := atB_m hok (by omega) (by omega) q.2
    omega
  have rd : ∀ (x : Int) (p m : Nat), okF h x → p < 12 → m < 1440 → (row : Nat → Int64) → (∀ p m y : Nat, p < 12 → m ≤ 1439 → y < 4 → (lb (row m) (4 * p + y) = true ↔ RdS (SC g (c / 10).toNat (h.1 2 10).toNat) (x / 10000).toNat (x % 10000).toNat p m y)) → ((∃ y : Nat, y < 4 ∧ lb (row m) (4 * p + y) = true) ↔ atB (SB h c s) x p m) := by
    intro x p m hx hp hm row hrow
    obtain ⟨hx1, hx2, hx3⟩ := hx
    constructor
    · rintro ⟨y, hy, z⟩
      exact ⟨y, hy, (RdS_c (QZ_same hq) (SC_ok hq.1) (by omega)).mp ((hrow p m y hp (by omega) hy).mp z)⟩
    · rintro ⟨y, hy, z⟩
      exact ⟨y, hy, (hrow p m y hp (by omega) hy).mpr ((RdS_c (QZ_same hq) (SC_ok hq.1) (by omega)).mpr z)⟩
  have hd1 : d - 1 + 1 ≤ d := by omega
  refine zrun_sound t_X5_meeting C E [42] 60 _ _ _ _ ?_
  refine zcall_i (d' := d - 1) hd1 hsp ?_
  rintro o g1 ⟨hf1, ho⟩
  rcases ho with ⟨rfl, -, h2⟩ | ⟨m, rfl, h1, ⟨p, y, h2, h3⟩, -⟩
  · have hq1 := QZ_S hq hf1
    have hsp2 := c_X5_spread_36 (d := d - 1) (by omega) g1 (c / 10).toNat (h.1 2 8).toNat (h.1 2 10).toNat b (b / 10000).toNat (b % 10000).toNat 1439 0 hq1.1 ⟨b1, by omega⟩ (by omega) (by omega) (by omega) (by omega) (by omega) (fun j _ q => by rw [lb_0] at q; cases q)
    refine zcall_i (d' := d - 1) hd1 hsp2 ?_
    rintro o g2 ⟨hf2, ho⟩
    rcases ho with ⟨rfl, -, h4⟩ | ⟨m, rfl, h1, ⟨p, y, h5, h3⟩, -⟩
    · rw [SC_S hf1] at h4
      refine And.intro ⟨a1, by omega⟩ (And.intro (by decide) (And.intro ⟨b1, by omega⟩ (And.intro (by decide) ?_)))
      refine And.intro (by omega) (And.intro (by omega) (And.intro (by omega) ?_))
      have e35 : g2.2 35 = g1.2 35 := funext fun i => (hf2 35 i rfl).2
      refine zJ_le (fin g2 (fr_trans (fr_sub hf1 (fun c i q => by simp at q ⊢; omega)) (fr_sub hf2 (fun c i q => by simp at q ⊢; omega))) (fun p m hp hm => ?_) (fun p m hp hm => ?_)) (And.intro rfl (And.intro rfl (And.intro rfl (And.intro rfl trivial)))) rfl rfl
      · rw [e35]
        exact rd a p m ha hp hm (g1.2 35) (fun p m y q1 q2 q3 => h2 p m y q1 q2 q3)
      · exact rd b p m hb hp hm (g2.2 36) (fun p m y q1 q2 q3 => h4 p m y q1 q2 q3)
    · rw [lb_0] at h3
      cases h3
  · rw [lb_0] at h3
    cases h3
theorem Isea_M {g g2 : zH} (hs : Isea g) (hf : fr (fun c _ => c == 35 || c == 36 || c == 38) g g2) : Isea g2 := by
  have e := fun c (q : c ≠ 35 ∧ c ≠ 36 ∧ c ≠ 38) => (funext fun i => (hf c i (by simp; omega)).1 : g2.1 c = g.1 c)
  exact Isea_c hs (fun c a b => e c (by omega)) (e 2 (by omega)) ⟨by rw [e 3 (by omega)], by rw [e 3 (by omega)]⟩ (e 33 (by omega)) (e 34 (by omega))
set_option maxHeartbeats 1000000 in
theorem c_X8_two {d : Nat} (hd : 7 ≤ d) (h : zH) (a b c e f : Int) (ha : inR a) (hb : inR b) (hc : inR c) (he : inR e) (hf : inR f) (hV : VV h) (hI : Isea h) :
    zC d k_X8_two [sR 0, sI a, sI b, sI c, sI e, sI f] h (fun o g => fr frK h g ∧ Isea g ∧ ∃ r : Int, o = some (sI r) ∧ twoA h a b c e f r) := by
  obtain ⟨hv1, hv2, hv3, hv4, hv5⟩ := id hV.1
  have hd1 : d - 1 + 1 ≤ d := by omega
  refine zC_of (by decide +kernel) (Nat.le_of_ble_eq_true rfl) (fun X C E => zrun_sound t_X8_two C E [] 60 _ _ _ _ ?_)
  refine zcall_i (d' := d - 1) hd1 (c_X8_isFrom (by omega) h a ha hv3) ?_
  rintro _ _ ⟨rfl, rfl⟩
  refine And.intro g_in (And.intro (fun c1 => And.intro (fr_rfl _ _) (And.intro hI ⟨_, rfl, Or.inl ⟨fun z => g_f c1 z.1, rfl⟩⟩)) (fun c1 => ?_))
  refine zcall_i (d' := d - 1) hd1 (c_X8_isFrom (by omega) h b hb hv3) ?_
  rintro _ _ ⟨rfl, rfl⟩
  refine And.intro g_in (And.intro (fun c2 => And.intro (fr_rfl _ _) (And.intro hI ⟨_, rfl, Or.inl ⟨fun z => g_f c2 z.2.1, rfl⟩⟩)) (fun c2 => ?_))
  refine zcall_i (d' := d - 1) hd1 (c_X8_isSortAndTide (by omega) h c hc hv1) ?_
  rintro _ _ ⟨rfl, rfl⟩
  refine And.intro g_in (And.intro (fun c3 => And.intro (fr_rfl _ _) (And.intro hI ⟨_, rfl, Or.inl ⟨fun z => g_f c3 z.2.2.1, rfl⟩⟩)) (fun c3 => ?_))
  refine zcall_i (d' := d - 1) hd1 (c_X8_isWinds (by omega) h e he (by omega)) ?_
  rintro _ _ ⟨rfl, rfl⟩
  refine And.intro g_in (And.intro (fun c4 => And.intro (fr_rfl _ _) (And.intro hI ⟨_, rfl, Or.inl ⟨fun z => g_f c4 z.2.2.2.1, rfl⟩⟩)) (fun c4 => ?_))
  refine zcall_i (d' := d - 1) hd1 (c_X8_within h f 0 1 hf (by omega) (by omega)) ?_
  rintro _ _ ⟨rfl, rfl⟩
  refine And.intro g_in (And.intro (fun c5 => ?_) (fun c5 => And.intro (fr_rfl _ _) (And.intro hI ⟨_, rfl, Or.inl ⟨fun z => g_f c5 z.2.2.2.2, rfl⟩⟩)))
  have q1 := g_t c1
  replace q1 : okF h a := q1
  have q2 := g_t c2
  replace q2 : okF h b := q2
  have q3 := g_t c3
  replace q3 : okT h c := q3
  have q4 := g_t c4
  replace q4 : okW h e := q4
  have q5 := g_t c5
  have q : ok5 h a b c e f := ⟨q1, q2, q3, q4, q5⟩
  obtain ⟨s, n, es, es2, en, hs⟩ := winds_n q4
  refine zcall_i (d' := d - 1) hd1 (c_prepX (by omega) h c e e.toNat hV hI q3 (by omega) (by rw [es2, en]; exact hs)) ?_
  rintro _ g ⟨rfl, hf1, hs1, hq⟩
  refine zcall_i (d' := d - 1) hd1 (c_X5_meeting (by omega) h g a b c e.toNat hV hf1 hq q1 q2 q3) ?_
  rintro o g2 ⟨hf2, ho⟩
  have hf3 : fr frK h g2 := fr_trans hf1 (fr_sub hf2 (fun c i z => by simp [frK] at z ⊢; omega))
  have hs3 := Isea_M hs1 hf2
  rcases ho with ⟨rfl, hno⟩ | ⟨p, m, hp, hm, hbo, hno, rfl⟩
  · refine And.intro (by decide) (And.intro (by decide) (And.intro (fun z => absurd rfl z) (fun _ => ?_)))
    exact And.intro hf3 (And.intro hs3 ⟨_, rfl, Or.inr (Or.inl ⟨q, hno, rfl⟩)⟩)
  · refine And.intro (by omega) (And.intro (by decide) (And.intro (fun _ => ?_) (fun z => absurd z (by omega))))
    refine And.intro hf (And.intro (fun z => ?_) (fun z => ?_))
    · refine And.intro (by omega) (And.intro (by omega) ?_)
      exact And.intro hf3 (And.intro hs3 ⟨_, rfl, Or.inr (Or.inr ⟨q, p, m, hp, hm, hbo, hno, by rw [if_neg z]; omega⟩)⟩)
    · refine And.intro (by omega) (And.intro (by omega) ?_)
      exact And.intro hf3 (And.intro hs3 ⟨_, rfl, Or.inr (Or.inr ⟨q, p, m, hp, hm, hbo, hno, by rw [if_pos z]; omega⟩)⟩)
def fr73 : Nat → Nat → Bool := fun c _ => c == 73
theorem kpR_73 {h g : zH} (hf : fr fr73 h g) : kpR h g := by
  refine ⟨fun c q => funext fun i => (hf c i ?_).1, fun c q => funext fun i => (hf c i ?_).2, fun i _ _ _ _ _ => (hf 52 i ?_).1⟩
  · simp [own52] at q
    simp [fr73]
    omega
  · simp [own52] at q
    simp [fr73]
    omega
  · simp [fr73]
theorem Isea_73 {h g : zH} (hf : fr fr73 h g) (hs : Isea h) : Isea g := by
  have e := fun c (q : c ≠ 73) => (funext fun i => (hf c i (by simp [fr73]; exact q)).1 : g.1 c = h.1 c)
  exact Isea_c hs (fun c a b => e c (by omega)) (e 2 (by omega)) ⟨by rw [e 3 (by omega)], by rw [e 3 (by omega)]⟩ (e 33 (by omega)) (e 34 (by omega))
/-- the first party's row, so far -/
def t73 (g : zH) (P : Nat) (φ : Nat → Nat → Prop) (p m : Nat) : Prop := ∀ p' m' : Nat, p' < P → m' < 1440 → (p' < p ∨ (p' = p ∧ m' < m)) → (g.1 73 (1440 * p' + m') = 1 ∧ φ p' m') ∨ (g.1 73 (1440 * p' + m') = 0 ∧ ¬ φ p' m')
theorem t73_s {g : zH} {P p m : Nat} {φ : Nat → Nat → Prop} {v : Int} (ht : t73 g P φ p m) (hm : m < 1440) (hv : (v = 1 ∧ φ p m) ∨ (v = 0 ∧ ¬ φ p m)) : t73 (setI g 73 (1440 * p + m) v) P φ p (m + 1) := by
  intro p' m' h1 h2 h3
  rw [setI_at]
  by_cases e : p' = p ∧ m' = m
  · obtain ⟨rfl, rfl⟩ := e
    rw [if_pos ⟨rfl, rfl⟩]
    exact hv
  · rw [if_neg (by omega)]
    exact ht p' m' h1 h2 (by omega)
set_option maxHeartbeats 4000000 in
theorem c_X9_two {d : Nat} (hd : 7 ≤ d) (h : zH) (a b c e f : Int) (ha : inR a) (hb : inR b) (hc : inR c) (he : inR e) (hf : inR f) (hI : Inv2 h) :
    zC d k_X9_two [sR 52, sI a, sI b, sI c, sI e, sI f] h (fun o g => Inv2 g ∧ ∃ r : Int, o = some (sI r) ∧ twoA h a b c e f r) := by
  have hV := hI.1.1
  have hE := hI.1.2.1
  obtain ⟨hv1, hv2, hv3, hv4, hv5⟩ := id hV.1
  obtain ⟨x1, x2, x3, x4, x5, x6⟩ := id hE.1
  obtain ⟨m1, m2, m3⟩ := id hI.1.2.2.2.2.2.2.2.2.2
  have m4 := hI.2
  have hd1 : d - 1 + 1 ≤ d := by omega
  have g1 := c_X9_isFrom (d := d - 1) (by omega) h a ha (by omega)
  have g2 := c_X9_isFrom (d := d - 1) (by omega) h b hb (by omega)
  have g3 := c_X9_isSt (d := d - 1) (by omega) h c hc (by omega)
  have g4 := c_X9_areWinds (d := d - 1) h e he (by omega)
  rw [x3] at g1 g2
  rw [x1] at g3
  rw [x2] at g4
  have keep : ∀ {H g : zH}, kpR h H ∧ Isea H ∧ H.1 52 31 = -1 ∧ H.1 52 32 = -1 ∧ H.1 52 34 = -1 ∧ (0 ≤ H.1 52 33 ∧ H.1 52 33 ≤ 200) → fr frR H g ∨ fr fr73 H g → kpR h g ∧ Isea g ∧ g.1 52 31 = -1 ∧ g.1 52 32 = -1 ∧ g.1 52 34 = -1 ∧ (0 ≤ g.1 52 33 ∧ g.1 52 33 ≤ 200) := by
    rintro H g ⟨k, s, n1, n2, n3, n4⟩ (q | q)
    · exact ⟨kpR_t k (kpR_R q), kpR_sea q s, (q 52 31 rfl).1.trans n1, (q 52 32 rfl).1.trans n2, (q 52 34 rfl).1.trans n3, by rw [(q 52 33 rfl).1]; exact n4⟩
    · exact ⟨kpR_t k (kpR_73 q), Isea_73 q s, (q 52 31 rfl).1.trans n1, (q 52 32 rfl).1.trans n2, (q 52 34 rfl).1.trans n3, by rw [(q 52 33 rfl).1]; exact n4⟩
  have fin : ∀ {H : zH}, kpR h H ∧ Isea H ∧ H.1 52 31 = -1 ∧ H.1 52 32 = -1 ∧ H.1 52 34 = -1 ∧ (0 ≤ H.1 52 33 ∧ H.1 52 33 ≤ 200) → Inv2 H := fun ⟨k, s, n1, n2, n3, n4⟩ => kpR_I k hI s n1 n2 n3 n4
  have p20 : ∀ {H : zH}, kpR h H → H.1 52 20 = h.1 2 8 := fun k => (k.2.2 20 (by omega) (by omega) (by omega) (by omega) (by omega)).trans x3
  refine zC_of (by decide +kernel) (Nat.le_of_ble_eq_true rfl) (fun X C E => ?_)
  have third : ok5 h a b c e f → ∀ H : zH, kpR h H ∧ Isea H ∧ H.1 52 31 = -1 ∧ H.1 52 32 = -1 ∧ H.1 52 34 = -1 ∧ (0 ≤ H.1 52 33 ∧ H.1 52 33 ≤ 200) → t73 H (h.1 2 8).toNat (atB (SB h c e.toNat) a) (h.1 2 8).toNat 0 → tellsR H (h.1 2 8).toNat (RdS (SB h c e.toNat) (b / 10000).toNat (b % 10000).toNat) → zJ X 122 [some (sR 52), some (sI a), some (sI b), some (sI c), some (sI e), some (sI f), some (sI 0)] [] H := by
    intro q H hk h73 ht
    have e20 := p20 hk.1
    have mins : ∀ (f1 m : Nat), m + f1 = 1440 → (∀ p' m' : Nat, p' < (h.1 2 8).toNat → m' < m → ¬ bothB h a b c e.toNat p' m') → zJ X 122 [some (sR 52), some (sI a), some (sI b), some (sI c), some (sI e), some (sI f), some (sI m)] [] H := by
      intro f1
      induction f1 with
      | zero =>
        intro m hm hno
        refine zrun_sound t_X9_two C E [] 60 _ _ _ _ ?_
        refine And.intro (by omega) (And.intro (by omega) (And.intro (fun _ => ?_) (fun z => absurd (by omega) z)))
        exact And.intro (fin hk) ⟨_, rfl, Or.inr (Or.inl ⟨q, fun p' m' q1 q2 => hno p' m' q1 (by omega), rfl⟩)⟩
      | succ f1 ih =>
        intro m hm hno
        have places : ∀ (f2 p : Nat), p + f2 = (h.1 2 8).toNat → (∀ p' : Nat, p' < p → ¬ bothB h a b c e.toNat p' m) → zJ X 133 [some (sR 52), some (sI a), some (sI b), some (sI c), some (sI e), some (sI f), some (sI m), some (sI p)] [] H := by
          intro f2
          induction f2 with
          | zero =>
            intro p hp hnp
            refine zrun_sound t_X9_two C E [122] 60 _ _ _ _ ?_
            refine And.intro (by omega) (And.intro (by omega) (And.intro (fun _ => ?_) (fun z => absurd (by omega) z)))
            refine zJ_le (ih (m + 1) (by omega) (fun p' m' h1 h2 => ?_)) (And.intro rfl (And.intro rfl (And.intro rfl (And.intro rfl (And.intro rfl (And.intro rfl (And.intro rfl trivial))))))) rfl rfl
            by_cases e : m' = m
            · subst e
              exact hnp p' (by omega)
            · exact hno p' m' h1 (by omega)
          | succ f2 ih2 =>
            intro p hp hnp
            have tn : (1440 * (p : Int) + (m : Int)).toNat = 1440 * p + m := by omega
            have nxt : ¬ bothB h a b c e.toNat p m → zJ X 183 [some (sR 52), some (sI a), some (sI b), some (sI c), some (sI e), some (sI f), some (sI m), some (sI p)] [] H := by
              intro hn
              refine zrun_sound t_X9_two C E [133] 60 _ _ _ _ ?_
              refine zJ_le (ih2 (p + 1) (by omega) (fun p' h1 => ?_)) (And.intro rfl (And.intro rfl (And.intro rfl (And.intro rfl (And.intro rfl (And.intro rfl (And.intro rfl (And.intro rfl trivial)))))))) rfl rfl
              by_cases e : p' = p
              · subst e
                exact hn
              · exact hnp p' (by omega)
            refine zrun_sound t_X9_two C E [183] 60 _ _ _ _ ?_
            refine And.intro (by omega) (And.intro (by omega) (And.intro (fun z => absurd z (by omega)) (fun _ => ?_)))
            refine And.intro (by omega) (And.intro (by omega) ?_)
            rw [tn]
            rcases h73 p m (by omega) (by omega) (by omega) with ⟨v1, v2⟩ | ⟨v1, v2⟩
            · rw [v1]
              refine And.intro (by decide) (And.intro (fun z => absurd z (by decide)) (fun _ => ?_))
              refine zcall_i (d' := d - 1) hd1 (c_X9_isAt (by omega) H p m (h.1 2 8).toNat _ (by omega) (by omega) (by omega) ht) ?_
              rintro o g' ⟨rfl, ⟨rfl, z⟩ | ⟨rfl, z⟩⟩
              · refine And.intro (by decide) (And.intro (fun z => absurd z (by decide)) (fun _ => ?_))
                refine And.intro hf (And.intro (fun z2 => ?_) (fun z2 => ?_))
                · exact And.intro (fin hk) ⟨_, rfl, Or.inr (Or.inr ⟨q, p, m, by omega, by omega, ⟨v2, z⟩, ⟨hno, hnp⟩, by rw [if_neg z2]⟩)⟩
                · exact And.intro (fin hk) ⟨_, rfl, Or.inr (Or.inr ⟨q, p, m, by omega, by omega, ⟨v2, z⟩, ⟨hno, hnp⟩, by rw [if_pos z2]⟩)⟩
              · refine And.intro (by decide) (And.intro (fun _ => ?_) (fun z => absurd rfl z))
                exact nxt (fun z2 => z z2.2)
            · rw [v1]
              refine And.intro (by decide) (And.intro (fun _ => ?_) (fun z => absurd rfl z))
              exact nxt (fun z2 => v2 z2.1)
        refine zrun_sound t_X9_two C E [133] 60 _ _ _ _ ?_
        refine And.intro (by omega) (And.intro (by omega) (And.intro (fun z => absurd z (by omega)) (fun _ => ?_)))
        exact zJ_le (places (h.1 2 8).toNat 0 (by omega) (fun p' h1 => absurd h1 (by omega))) (And.intro rfl (And.intro rfl (And.intro rfl (And.intro rfl (And.intro rfl (And.intro rfl (And.intro rfl (And.intro rfl trivial)))))))) rfl rfl
    exact mins 1440 0 (by omega) (fun p' m' _ h2 => absurd h2 (by omega))
  have second : ok5 h a b c e f → (1 ≤ e.toNat ∧ e.toNat < 2 ^ (h.1 2 4).toNat) → ∀ (f1 p : Nat) (H : zH), p + f1 = (h.1 2 8).toNat → kpR h H ∧ Isea H ∧ H.1 52 31 = -1 ∧ H.1 52 32 = -1 ∧ H.1 52 34 = -1 ∧ (0 ≤ H.1 52 33 ∧ H.1 52 33 ≤ 200) → t73 H (h.1 2 8).toNat (atB (SB h c e.toNat) a) p 0 → tellsR H (h.1 2 8).toNat (RdS (SB h c e.toNat) (a / 10000).toNat (a % 10000).toNat) → zJ X 57 [some (sR 52), some (sI a), some (sI b), some (sI c), some (sI e), some (sI f), some (sI p)] [] H := by
    intro q hs f1
    induction f1 with
    | zero =>
      intro p H hp hk h73 ht
      have e20 := p20 hk.1
      refine zrun_sound t_X9_two C E [122] 60 _ _ _ _ ?_
      refine And.intro (by omega) (And.intro (by omega) (And.intro (fun _ => ?_) (fun z => absurd (by omega) z)))
      refine zcall_i (d' := d - 1) hd1 (c_reachK (by omega) h H b c e e.toNat hk.1 hI hk.2.2.1 hk.2.2.2.1 hk.2.2.2.2.1 hk.2.2.2.2.2 q.2.1 q.2.2.1 (by have := q.2.2.2.1.1; omega) hs) ?_
      rintro _ g ⟨rfl, hf5, ht5⟩
      refine third q g (keep hk (Or.inl hf5)) ?_ ht5
      intro p' m' h1 h2 h3
      rw [(hf5 73 _ rfl).1]
      exact h73 p' m' h1 h2 (by omega)
    | succ f1 ih =>
      intro p H0 hp hk0 h730 ht0
      have e20 := p20 hk0.1
      have inner : ∀ (f2 m : Nat) (H : zH), m + f2 = 1440 → kpR h H ∧ Isea H ∧ H.1 52 31 = -1 ∧ H.1 52 32 = -1 ∧ H.1 52 34 = -1 ∧ (0 ≤ H.1 52 33 ∧ H.1 52 33 ≤ 200) → t73 H (h.1 2 8).toNat (atB (SB h c e.toNat) a) p m → tellsR H (h.1 2 8).toNat (RdS (SB h c e.toNat) (a / 10000).toNat (a % 10000).toNat) → zJ X 69 [some (sR 52), some (sI a), some (sI b), some (sI c), some (sI e), some (sI f), some (sI p), some (sI m)] [] H := by
        intro f2
        induction f2 with
        | zero =>
          intro m H hm hk h73 ht
          refine zrun_sound t_X9_two C E [57] 60 _ _ _ _ ?_
          refine And.intro (by omega) (And.intro (by omega) (And.intro (fun _ => ?_) (fun z => absurd (by omega) z)))
          refine zJ_le (ih (p + 1) H (by omega) hk (fun p' m' h1 h2 h3 => h73 p' m' h1 h2 (by omega)) ht) (And.intro rfl (And.intro rfl (And.intro rfl (And.intro rfl (And.intro rfl (And.intro rfl (And.intro rfl trivial))))))) rfl rfl
        | succ f2 ih2 =>
          intro m H hm hk h73 ht
          have tn : (1440 * (p : Int) + (m : Int)).toNat = 1440 * p + m := by omega
          refine zrun_sound t_X9_two C E [69] 60 _ _ _ _ ?_
          refine And.intro (by omega) (And.intro (by omega) (And.intro (fun z => absurd z (by omega)) (fun _ => ?_)))
          refine zcall_i (d' := d - 1) hd1 (c_X9_isAt (by omega) H p m (h.1 2 8).toNat _ (by omega) (by omega) (by omega) ht) ?_
          have f73 : ∀ v : Int, fr fr73 H (setI H 73 (1440 * p + m) v) := fun v => fr_setI (fr_rfl _ _) rfl
          rintro o g' ⟨rfl, ⟨rfl, z⟩ | ⟨rfl, z⟩⟩
          · refine And.intro (by omega) (And.intro (by omega) (And.intro (Or.inr rfl) ?_))
            rw [tn]
            exact zJ_le (ih2 (m + 1) _ (by omega) (keep hk (Or.inr (f73 1))) (t73_s h73 (by omega) (Or.inl ⟨rfl, z⟩)) ht) (And.intro rfl (And.intro rfl (And.intro rfl (And.intro rfl (And.intro rfl (And.intro rfl (And.intro rfl (And.intro rfl trivial)))))))) rfl rfl
          · refine And.intro (by omega) (And.intro (by omega) (And.intro (Or.inl rfl) ?_))
            rw [tn]
            exact zJ_le (ih2 (m + 1) _ (by omega) (keep hk (Or.inr (f73 0))) (t73_s h73 (by omega) (Or.inr ⟨rfl, z⟩)) ht) (And.intro rfl (And.intro rfl (And.intro rfl (And.intro rfl (And.intro rfl (And.intro rfl (And.intro rfl (And.intro rfl trivial)))))))) rfl rfl
      refine zrun_sound t_X9_two C E [69] 60 _ _ _ _ ?_
      refine And.intro (by omega) (And.intro (by omega) (And.intro (fun z => absurd z (by omega)) (fun _ => ?_)))
      exact zJ_le (inner 1440 0 H0 (by omega) hk0 h730 ht0) (And.intro rfl (And.intro rfl (And.intro rfl (And.intro rfl (And.intro rfl (And.intro rfl (And.intro rfl (And.intro rfl trivial)))))))) rfl rfl
  refine zrun_sound t_X9_two C E [57] 60 _ _ _ _ ?_
  refine zcall_i (d' := d - 1) hd1 g1 ?_
  rintro _ _ ⟨rfl, rfl⟩
  refine And.intro g_in (And.intro (fun c1 => And.intro hI ⟨_, rfl, Or.inl ⟨fun z => g_f c1 z.1, rfl⟩⟩) (fun c1 => ?_))
  refine zcall_i (d' := d - 1) hd1 g2 ?_
  rintro _ _ ⟨rfl, rfl⟩
  refine And.intro g_in (And.intro (fun c2 => And.intro hI ⟨_, rfl, Or.inl ⟨fun z => g_f c2 z.2.1, rfl⟩⟩) (fun c2 => ?_))
  refine zcall_i (d' := d - 1) hd1 g3 ?_
  rintro _ _ ⟨rfl, rfl⟩
  refine And.intro g_in (And.intro (fun c3 => And.intro hI ⟨_, rfl, Or.inl ⟨fun z => g_f c3 z.2.2.1, rfl⟩⟩) (fun c3 => ?_))
  refine zcall_i (d' := d - 1) hd1 g4 ?_
  rintro _ _ ⟨rfl, rfl⟩
  refine And.intro g_in (And.intro (fun c4 => And.intro hI ⟨_, rfl, Or.inl ⟨fun z => g_f c4 z.2.2.2.1, rfl⟩⟩) (fun c4 => ?_))
  refine zcall_i (d' := d - 1) hd1 (c_X9_within h (i2l f) 0 1 f 0 1 (i2l_toInt hf) (by decide) (by decide)) ?_
  rintro _ _ ⟨rfl, rfl⟩
  refine And.intro g_in (And.intro (fun c5 => ?_) (fun c5 => And.intro hI ⟨_, rfl, Or.inl ⟨fun z => g_f c5 z.2.2.2.2, rfl⟩⟩))
  have q1 := g_t c1
  replace q1 : okF h a := q1
  have q2 := g_t c2
  replace q2 : okF h b := q2
  have q3 := g_t c3
  replace q3 : okT h c := q3
  have q4 := g_t c4
  replace q4 : okW h e := q4
  have q5 := g_t c5
  have q : ok5 h a b c e f := ⟨q1, q2, q3, q4, q5⟩
  obtain ⟨s, n, es, es2, en, hs⟩ := winds_n q4
  have hs' : 1 ≤ e.toNat ∧ e.toNat < 2 ^ (h.1 2 4).toNat := by rw [es2, en]; exact hs
  refine zcall_i (d' := d - 1) hd1 (c_reachK (by omega) h h a c e e.toNat (kpR_0 h) hI m1 m2 m3 m4 q1 q3 (by omega) hs') ?_
  rintro _ g ⟨rfl, hf5, ht5⟩
  exact zJ_le (second q hs' (h.1 2 8).toNat 0 g (by omega) (keep ⟨kpR_0 h, hI.1.2.2.1, m1, m2, m3, m4⟩ (Or.inl hf5)) (fun p' m' _ _ h3 => by omega) ht5) (And.intro rfl (And.intro rfl (And.intro rfl (And.intro rfl (And.intro rfl (And.intro rfl (And.intro rfl trivial))))))) rfl rfl
theorem pr_two {d : Nat} (hd : 7 ≤ d) {a b c e f : Int} (ha : inR a) (hb : inR b) (hc : inR c) (he : inR e) (hf : inR f) : Pair2 d k_X8_two k_X9_two [sI a, sI b, sI c, sI e, sI f] := fun h hI => by
  refine zC_mono (c_X8_two hd h a b c e f ha hb hc he hf hI.1.1 hI.1.2.2.1) ?_
  rintro o g ⟨hf', hs, r, rfl, hr⟩
  refine ⟨r, rfl, zC_mono (c_X9_two hd g a b c e f ha hb hc he hf (Inv_K hI hs hf')) ?_⟩
  rintro o g' ⟨hI', r', rfl, hr'⟩
  rw [twoA_u hr (twoA_k (kpR_K hf') hr')]
  exact ⟨rfl, hI'⟩
/-! ===== chances of sets of winds ===== -/
def chF (f : Nat → Int) (s : Nat) : Nat → Int
  | 0 => 0
  | n + 1 => if s / 2 ^ n % 2 = 1 then chF f s n + f n else chF f s n
theorem chF_b {f : Nat → Int} {s : Nat} : ∀ n : Nat, (∀ w, w < n → 1 ≤ f w ∧ f w ≤ 99) → 0 ≤ chF f s n ∧ chF f s n ≤ 99 * n
  | 0, _ => ⟨Int.le_refl _, Int.le_refl _⟩
  | n + 1, hf => by
    have := chF_b (s := s) n (fun w hw => hf w (by omega))
    have := hf n (by omega)
    unfold chF
    split <;> omega
theorem chF_pos {f : Nat → Int} {s : Nat} : ∀ n : Nat, (∀ w, w < n → 1 ≤ f w ∧ f w ≤ 99) → 1 ≤ s → s < 2 ^ n → 1 ≤ chF f s n
  | 0, _, h1, h2 => absurd h2 (by omega)
  | n + 1, hf, h1, h2 => by
    have hb := chF_b (s := s) n (fun w hw => hf w (by omega))
    have hn := hf n (by omega)
    rw [Nat.pow_succ] at h2
    unfold chF
    by_cases q : s / 2 ^ n % 2 = 1
    · rw [if_pos q]
      omega
    · rw [if_neg q]
      refine chF_pos n (fun w hw => hf w (by omega)) h1 ?_
      have h3 : s / 2 ^ n < 2 := Nat.div_lt_of_lt_mul (by omega)
      have h4 : s / 2 ^ n = 0 := by omega
      have := Nat.div_eq_zero_iff.mp h4
      rcases this with z | z
      · have := Nat.pow_pos (n := n) (show 0 < 2 by decide)
        omega
      · exact z
theorem chF_c {f g : Nat → Int} {s : Nat} : ∀ n : Nat, (∀ w, w < n → f w = g w) → chF f s n = chF g s n
  | 0, _ => rfl
  | n + 1, h => by
    unfold chF
    rw [chF_c n (fun w hw => h w (by omega)), h n (by omega)]
theorem c_X2_chanceOf {d : Nat} (h : zH) (s n : Nat) (hs : s < 32) (hn : h.1 2 4 = n) (h5 : n ≤ 5) : zC d k_X2_chanceOf [sR 2, sI s] h (fun o g => h = g ∧ o = some (sI (chF (h.1 24) s n))) := by
  refine zC_of (by decide +kernel) (Nat.le_of_ble_eq_true rfl) (fun X C E => ?_)
  have loop : ∀ f w : Nat, w + f = n → zJ X 4 [some (sR 2), some (sI s), some (sI (chF (h.1 24) s w)), some (sI w)] [] h := by
    intro f
    induction f with
    | zero =>
      intro w hw
      refine zrun_sound t_X2_chanceOf C E [] 60 _ _ _ _ ?_
      refine And.intro (by omega) (And.intro (by omega) (And.intro (fun _ => ?_) (fun z => absurd (by omega) z)))
      exact And.intro rfl (by rw [show w = n by omega])
    | succ f ih =>
      intro w hw
      have nx := ih (w + 1) (by omega)
      have bt := (bit_tab s hs w (by omega)).1
      have e : chF (h.1 24) s (w + 1) = if s / 2 ^ w % 2 = 1 then chF (h.1 24) s w + h.1 24 w else chF (h.1 24) s w := rfl
      rw [e] at nx
      refine zrun_sound t_X2_chanceOf C E [4] 60 _ _ _ _ ?_
      refine And.intro (by omega) (And.intro (by omega) (And.intro (fun z => absurd z (by omega)) (fun _ => ?_)))
      rw [bt]
      refine And.intro (by omega) (And.intro (fun z => ?_) (fun z => ?_))
      · rw [if_neg (by omega)] at nx
        exact zJ_le nx (And.intro rfl (And.intro rfl (And.intro rfl (And.intro rfl trivial)))) rfl rfl
      · rw [if_pos (by omega)] at nx
        have k0 : (0 : Int) ≤ (w : Int) := by omega
        have k1 : (w : Int) < 5 := by omega
        refine And.intro k0 (And.intro k1 ?_)
        exact zJ_le nx (And.intro rfl (And.intro rfl (And.intro rfl (And.intro rfl trivial)))) rfl rfl
  refine zrun_sound t_X2_chanceOf C E [4] 60 _ _ _ _ ?_
  exact loop n 0 (by omega)
theorem c_X9_chancesOf {d : Nat} (h : zH) (s n : Nat) (hs : s < 32) (hn : h.1 52 16 = n) (h5 : n ≤ 5) : zC d k_X9_chancesOf [sR 52, sI s] h (fun o g => h = g ∧ o = some (sI (chF (h.1 65) s n))) := by
  refine zC_of (by decide +kernel) (Nat.le_of_ble_eq_true rfl) (fun X C E => ?_)
  have loop : ∀ f w : Nat, w + f = n → zJ X 4 [some (sR 52), some (sI s), some (sI (chF (h.1 65) s w)), some (sI w)] [] h := by
    intro f
    induction f with
    | zero =>
      intro w hw
      refine zrun_sound t_X9_chancesOf C E [] 60 _ _ _ _ ?_
      refine And.intro (by omega) (And.intro (by omega) (And.intro (fun _ => ?_) (fun z => absurd (by omega) z)))
      exact And.intro rfl (by rw [show w = n by omega])
    | succ f ih =>
      intro w hw
      have nx := ih (w + 1) (by omega)
      have bt := (bit_tab s hs w (by omega)).2
      have e : chF (h.1 65) s (w + 1) = if s / 2 ^ w % 2 = 1 then chF (h.1 65) s w + h.1 65 w else chF (h.1 65) s w := rfl
      rw [e] at nx
      refine zrun_sound t_X9_chancesOf C E [4] 60 _ _ _ _ ?_
      refine And.intro (by omega) (And.intro (by omega) (And.intro (fun z => absurd z (by omega)) (fun _ => ?_)))
      rw [bt]
      refine And.intro (by omega) (And.intro (by omega) (And.intro (fun z => ?_) (fun z => ?_)))
      · rw [if_neg (by omega)] at nx
        exact zJ_le nx (And.intro rfl (And.intro rfl (And.intro (congrArg sI (Int.add_zero _).symm) (And.intro rfl trivial)))) rfl rfl
      · rw [if_pos (by omega)] at nx
        have k0 : (0 : Int) ≤ (w : Int) := by omega
        have k1 : (w : Int) < 5 := by omega
        refine And.intro k0 (And.intro k1 ?_)
        exact zJ_le nx (And.intro rfl (And.intro rfl (And.intro rfl (And.intro rfl trivial)))) rfl rfl
  refine zrun_sound t_X9_chancesOf C E [4] 60 _ _ _ _ ?_
  exact loop n 0 (by omega)
/-- the thousandths of a set of winds -/
def thF (h : zH) (s : Nat) : Int := chF (h.1 24) s (h.1 2 4).toNat * 1000 / chF (h.1 24) (aw h) (h.1 2 4).toNat
theorem Vw_c {h : zH} (hV : VV h) : ∀ w, w < (h.1 2 4).toNat → 1 ≤ h.1 24 w ∧ h.1 24 w ≤ 99 := fun w hw => by
  have := hV.1.2.1
  exact (hV.2.2.1 w (by omega)).2.2
theorem ch_aw {h : zH} (hV : VV h) : 1 ≤ chF (h.1 24) (aw h) (h.1 2 4).toNat ∧ chF (h.1 24) (aw h) (h.1 2 4).toNat ≤ 495 := by
  obtain ⟨w1, w2, -⟩ := aw_ok hV
  have := hV.1.2.1
  have b := chF_b (s := aw h) _ (Vw_c hV)
  exact ⟨chF_pos _ (Vw_c hV) w1 w2, by omega⟩
theorem aw32 {h : zH} (hV : VV h) : aw h < 32 := by
  obtain ⟨w1, w2, -⟩ := aw_ok hV
  have := hV.1.2.1
  exact Nat.lt_of_lt_of_le w2 (Nat.pow_le_pow_right (by omega) (show (h.1 2 4).toNat ≤ 5 by omega))
theorem c_X2_thousandths {d : Nat} (hd : 3 ≤ d) (h : zH) (s : Nat) (hs : s < 32) (hV : VV h) : zC d k_X2_thousandths [sR 2, sI s] h (fun o g => h = g ∧ o = some (sI (thF h s))) := by
  have hv2 := hV.1.2.1
  obtain ⟨w1, w2, w3⟩ := aw_ok hV
  have b1 := chF_b (s := s) _ (Vw_c hV)
  have b2 := ch_aw hV
  have hd1 : 1 ≤ d := by omega
  refine zC_of (by decide +kernel) (Nat.le_of_ble_eq_true rfl) (fun X C E => zrun_sound t_X2_thousandths C E [] 60 _ _ _ _ ?_)
  refine zcall_i (d' := d - 1) (by omega) (c_X2_chanceOf h s (h.1 2 4).toNat hs (by omega) (by omega)) ?_
  rintro _ _ ⟨rfl, rfl⟩
  refine zcall_i (d' := d - 1) (by omega) (c_X2_allWinds h (by omega)) ?_
  rintro _ _ ⟨rfl, rfl⟩
  rw [w3]
  refine zcall_i (d' := d - 1) (by omega) (c_X2_chanceOf h (aw h) (h.1 2 4).toNat (aw32 hV) (by omega) (by omega)) ?_
  rintro _ _ ⟨rfl, rfl⟩
  refine And.intro hd1 (And.intro (by omega) (And.intro (by omega) ?_))
  rw [show max 1 (chF (h.1 24) (aw h) (h.1 2 4).toNat) = chF (h.1 24) (aw h) (h.1 2 4).toNat by omega]
  exact And.intro (by omega) (And.intro (by omega) (And.intro rfl rfl))
theorem ch_M {h g : zH} (k : kpR h g) (hE : Ieq h) (hV : VV h) (s : Nat) : chF (g.1 65) s (h.1 2 4).toNat = chF (h.1 24) s (h.1 2 4).toNat := by
  have := hV.1.2.1
  refine chF_c _ (fun w hw => ?_)
  rw [k.1 65 rfl]
  exact (hE.2.2.2.1 w (by omega)).2.2
/-! ===== best ===== -/
theorem chF_0 {f : Nat → Int} : ∀ n : Nat, chF f 0 n = 0
  | 0 => rfl
  | n + 1 => by
    unfold chF
    rw [Nat.zero_div, if_neg (by omega), chF_0 n]
theorem pow_bit {w i : Nat} : 2 ^ w / 2 ^ i % 2 = 1 ↔ i = w := by
  constructor
  · intro h
    rcases (by omega : i < w ∨ i = w ∨ w < i) with q | q | q
    · obtain ⟨k, rfl⟩ : ∃ k, w = i + (k + 1) := ⟨w - i - 1, by omega⟩
      rw [Nat.pow_add, Nat.mul_div_cancel_left _ (Nat.pow_pos (by decide)), Nat.pow_succ] at h
      omega
    · exact q
    · rw [Nat.div_eq_of_lt (Nat.pow_lt_pow_right (by decide) q)] at h
      omega
  · rintro rfl
    rw [Nat.div_self (Nat.pow_pos (by decide))]
/-- in one wind of a set goes what goes in the set -/
theorem hiQ_wind {h : zH} {t s n w : Nat} {m : Nat} {x : Int} (hw : w < n) (hb : s / 2 ^ w % 2 = 1) (hx : hiQ h t s n m ≤ x) : hiQ h t (2 ^ w) n m ≤ x := by
  unfold hiQ at *
  rw [hiF_le] at hx ⊢
  refine ⟨hx.1, fun i hi hbi => ?_⟩
  rw [pow_bit] at hbi
  subst hbi
  exact hx.2 i hi hb
theorem SZ_wind {h : zH} {c : Int} {s w : Nat} {F M Y W : Int} (hw : w < (h.1 2 4).toNat) (hb : s / 2 ^ w % 2 = 1) : ∀ p m y p' m' y', SZ h c s F M Y W p m y p' m' y' → SZ h c (2 ^ w) F M Y W p m y p' m' y' := by
  intro p m y p' m' y'
  unfold SZ SQ stS wtS wyS goP wtP
  rintro (⟨e1, e2, e3, e4, e5, e6, e7⟩ | ⟨v, hv, ⟨g1, g2, g3⟩, r⟩)
  · exact Or.inl ⟨e1, e2, e3, e4, e5, hiQ_wind hw hb e6, hiQ_wind hw hb e7⟩
  · exact Or.inr ⟨v, hv, ⟨g1, g2, fun j j1 j2 => hiQ_wind hw hb (g3 j j1 j2)⟩, r⟩
/-- reached by dark in a set of winds -/
def bD (h : zH) (a b c : Int) (s : Nat) : Prop := rdB (SB h c s) (a / 10000).toNat (a % 10000).toNat b.toNat (h.1 2 19).toNat
theorem bD_wind {h : zH} {a b c : Int} {s w : Nat} (hV : VV h) (ha : okF h a) (hc : okT h c) (hw : w < (h.1 2 4).toNat) (hb : s / 2 ^ w % 2 = 1) (hd : bD h a b c s) : bD h a b c (2 ^ w) := by
  obtain ⟨a1, a2, a3⟩ := ha
  exact rdB_le (P := (h.1 2 8).toNat) (fun p m y p' m' y' _ _ z => SZ_wind hw hb p m y p' m' y' z) (SZ_ok hV hc) (by omega) hd
theorem kpR_bD {h g : zH} (k : kpR h g) (a b c : Int) : bD g a b c = bD h a b c := funext fun s => by
  unfold bD SB
  rw [kpR_SZ k, k.1 2 rfl]
abbrev ch (h : zH) (s : Nat) : Int := chF (h.1 24) s (h.1 2 4).toNat
def bsR (h : zH) (a b c : Int) (s : Nat) : Prop := (s = 0 ∨ (1 ≤ s ∧ s ≤ aw h ∧ bD h a b c s)) ∧ (∀ s' : Nat, 1 ≤ s' → s' ≤ aw h → bD h a b c s' → ch h s' ≤ ch h s) ∧ ∀ s' : Nat, 1 ≤ s' → s' < s → bD h a b c s' → ch h s' < ch h s
theorem bsR_u {h : zH} {a b c : Int} {s s' : Nat} (hV : VV h) (x : bsR h a b c s) (y : bsR h a b c s') : s = s' := by
  obtain ⟨w1, w2, -⟩ := aw_ok hV
  have key : ∀ s s' : Nat, bsR h a b c s → bsR h a b c s' → s < s' → False := by
    rintro s s' ⟨x1, x2, x3⟩ ⟨y1, y2, y3⟩ hlt
    rcases y1 with y1 | ⟨y1, y4, y5⟩
    · omega
    · have q := x2 s' y1 y4 y5
      rcases x1 with x1 | ⟨x1, x4, x5⟩
      · subst x1
        have := chF_pos (f := h.1 24) (s := s') _ (Vw_c hV) y1 (by omega)
        have e0 := @chF_0 (h.1 24) (h.1 2 4).toNat
        unfold ch at q
        omega
      · have := y3 s x1 hlt x5
        omega
  rcases (by omega : s < s' ∨ s' < s ∨ s = s') with q | q | q
  · exact (key s s' x y q).elim
  · exact (key s' s y x q).elim
  · exact q
def ok3 (h : zH) (a b c e : Int) : Prop := okF h a ∧ okP h b ∧ okT h c ∧ 0 ≤ e ∧ e ≤ 1
def bestA (h : zH) (a b c e r : Int) : Prop := (¬ ok3 h a b c e ∧ r = -1) ∨ (ok3 h a b c e ∧ ∃ s : Nat, bsR h a b c s ∧ r = if e = 1 then (s : Int) else thF h s)
theorem bestA_u {h : zH} {a b c e r r' : Int} (hV : VV h) (x : bestA h a b c e r) (y : bestA h a b c e r') : r = r' := by
  rcases x with ⟨x1, x2⟩ | ⟨x1, s, x2, x3⟩ <;> rcases y with ⟨y1, y2⟩ | ⟨y1, s', y2, y3⟩
  · omega
  · exact absurd y1 x1
  · exact absurd x1 y1
  · have := bsR_u hV x2 y2
    subst this
    rw [x3, y3]
theorem kpR_th {h g : zH} (k : kpR h g) : (∀ s, ch g s = ch h s) ∧ ∀ s, thF g s = thF h s := by
  have e1 : ∀ s, ch g s = ch h s := fun s => by
    unfold ch
    rw [k.1 24 rfl, k.1 2 rfl]
  refine ⟨e1, fun s => ?_⟩
  unfold thF
  rw [k.1 24 rfl, k.1 2 rfl, kpR_aw k]
theorem bestA_k {h g : zH} (k : kpR h g) {a b c e r : Int} (x : bestA g a b c e r) : bestA h a b c e r := by
  obtain ⟨k1, k2, k3, k4⟩ := kpR_ok k
  have e1 : ok3 g a b c e = ok3 h a b c e := by
    unfold ok3
    rw [k1, k2, k3]
  have e2 : bsR g a b c = bsR h a b c := funext fun s => by
    unfold bsR
    rw [kpR_bD k, kpR_aw k]
    simp only [(kpR_th k).1]
  unfold bestA at *
  rw [e1, e2] at x
  simp only [(kpR_th k).2] at x
  exact x
/-! bits of what was tried -/
def tb (t : Int) (s : Nat) : Bool := (i32 t).toBitVec.getLsbD s
theorem tb_eq (t : Int) (s : Nat) (hs : s < 32) : and32 (ushr32 t (s : Int)) 1 = if tb t s = true then 1 else 0 := by
  rw [and32_1, ushr32_nat (by omega) (by omega)]
  have e : (((i32 t).toBitVec.toNat / 2 ^ ((s : Int)).toNat : Nat) : Int).bmod 4294967296 % 2 = (((i32 t).toBitVec.toNat / 2 ^ s % 2 : Nat) : Int) := by
    rw [show ((s : Int)).toNat = s from rfl]
    generalize (i32 t).toBitVec.toNat / 2 ^ s = x
    rw [Int.bmod_def]
    split <;> omega
  rw [e]
  unfold tb
  rw [BitVec.getLsbD, Nat.testBit, Nat.shiftRight_eq_div_pow]
  have : 1 &&& (i32 t).toBitVec.toNat / 2 ^ s = (i32 t).toBitVec.toNat / 2 ^ s % 2 := by
    rw [Nat.and_comm, Nat.and_one_is_mod]
  rw [this]
  rcases Nat.mod_two_eq_zero_or_one ((i32 t).toBitVec.toNat / 2 ^ s) with q | q
  · rw [q]; rfl
  · rw [q]; rfl
theorem tb_shl : ∀ r : Nat, r < 32 → ∀ s : Nat, s < 32 → (i32 (shl32 1 (r : Int))).toBitVec.getLsbD s = decide (s = r) := by decide +kernel
theorem tb_or (t : Int) {r s : Nat} (hr : r < 32) (hs : s < 32) : tb (or32 t (shl32 1 (r : Int))) s = (tb t s || decide (s = r)) := by
  unfold tb
  rw [show i32 (or32 t (shl32 1 (r : Int))) = i32 t ||| i32 (shl32 1 (r : Int)) from i32_of _, Int32.toBitVec_or, BitVec.getLsbD_or, tb_shl r hr s hs]
theorem tb_0 : ∀ s : Nat, s < 32 → tb 0 s = false := by decide
theorem cntF_add {f g : Nat → Bool} {r : Nat} (hr : f r = false) (hg : ∀ i, g i = (f i || decide (i = r))) : ∀ n : Nat, cntF g n = cntF f n + (if r < n then 1 else 0)
  | 0 => by
    rw [if_neg (by omega)]
    rfl
  | n + 1 => by
    have ih := cntF_add hr hg n
    rw [cntF_s, cntF_s, ih, hg n]
    by_cases e : n = r
    · subst e
      rw [hr, if_neg (by omega : ¬ n < n), if_pos (by omega : n < n + 1)]
      simp
    · have : decide (n = r) = false := decide_eq_false e
      rw [this, Bool.or_false]
      by_cases e2 : r < n
      · rw [if_pos e2, if_pos (by omega : r < n + 1)]
        omega
      · rw [if_neg e2, if_neg (by omega : ¬ r < n + 1)]
        omega
theorem cntF_less {f : Nat → Bool} (h0 : f 0 = false) : ∀ n : Nat, cntF f (n + 1) ≤ n
  | 0 => by
    rw [cntF_s, h0]
    decide
  | n + 1 => by
    have := cntF_less h0 n
    rw [cntF_s]
    split <;> omega
def sbS (s u : Nat) : Prop := ∀ i : Nat, i < 5 → s / 2 ^ i % 2 = 1 → u / 2 ^ i % 2 = 1
/-- the likeliest of the sets below k that lie in u and are not in t -/
def liR (h : zH) (u : Nat) (t : Int) (k r : Nat) : Prop := (r = 0 ∨ (1 ≤ r ∧ r < k ∧ sbS r u ∧ tb t r = false)) ∧ (∀ s : Nat, 1 ≤ s → s < k → sbS s u → tb t s = false → ch h s ≤ ch h r) ∧ ∀ s : Nat, 1 ≤ s → s < r → sbS s u → tb t s = false → ch h s < ch h r
set_option maxHeartbeats 1000000 in
theorem c_X8_likeliest {d : Nat} (hd : 3 ≤ d) (h : zH) (u : Nat) (t : Int) (hu : u < 32) (hV : VV h) :
    zC d k_X8_likeliestUntried [sR 0, sI u, sI t] h (fun o g => h = g ∧ ∃ r : Nat, o = some (sI r) ∧ liR h u t (u + 1) r) := by
  have hv2 := hV.1.2.1
  have b1 := fun s => chF_b (s := s) _ (Vw_c hV)
  refine zC_of (by decide +kernel) (Nat.le_of_ble_eq_true rfl) (fun X C E => ?_)
  have loop : ∀ (f k r : Nat), k + f = u + 1 → 1 ≤ k → r < 32 → liR h u t k r → zJ X 5 [some (sR 0), some (sI u), some (sI t), some (sI r), some (sI k)] [] h := by
    intro f
    induction f with
    | zero =>
      intro k r hk k1 hr hl
      have : k = u + 1 := by omega
      subst this
      refine zrun_sound t_X8_likeliestUntried C E [] 60 _ _ _ _ ?_
      refine And.intro (by omega) (And.intro (by omega) (And.intro (fun _ => ?_) (fun z => absurd (by omega) z)))
      exact And.intro rfl ⟨r, rfl, hl⟩
    | succ f ih =>
      intro k r hk k1 hr hl
      obtain ⟨l1, l2, l3⟩ := hl
      have sub := sub_tab k (by omega) u hu
      have tbe := tb_eq t k (by omega)
      have stay : ¬ (sbS k u ∧ tb t k = false ∧ ch h r < ch h k) → zJ X 64 [some (sR 0), some (sI u), some (sI t), some (sI r), some (sI k)] [] h := by
        intro hn
        refine zrun_sound t_X8_likeliestUntried C E [5] 60 _ _ _ _ ?_
        refine zJ_le (ih (k + 1) r (by omega) (by omega) hr ⟨?_, fun s s1 s2 s3 s4 => ?_, l3⟩) (And.intro rfl (And.intro rfl (And.intro rfl (And.intro rfl (And.intro rfl trivial))))) rfl rfl
        · rcases l1 with l1 | ⟨l1, l4, l5⟩
          · exact Or.inl l1
          · exact Or.inr ⟨l1, by omega, l5⟩
        · by_cases e : s = k
          · subst e
            exact Int.not_lt.mp (fun z => hn ⟨s3, s4, z⟩)
          · exact l2 s s1 (by omega) s3 s4
      have no36 : ¬ (sbS k u ∧ tb t k = false) → zJ X 33 [some (sR 0), some (sI u), some (sI t), some (sI r), some (sI k)] [] h := by
        intro hn
        refine zrun_sound t_X8_likeliestUntried C E [64] 60 _ _ _ _ ?_
        refine And.intro (by decide) (And.intro (fun _ => ?_) (fun z => absurd rfl z))
        exact zJ_le (stay (fun z => hn ⟨z.1, z.2.1⟩)) (And.intro rfl (And.intro rfl (And.intro rfl (And.intro rfl (And.intro rfl trivial))))) rfl rfl
      refine zrun_sound t_X8_likeliestUntried C E [5, 33, 64] 80 _ _ _ _ ?_
      refine And.intro (by omega) (And.intro (by omega) (And.intro (fun z => absurd z (by omega)) (fun _ => ?_)))
      refine And.intro (and32_in _ _) (And.intro (fun z => no36 (fun q => z (sub.mpr q.1))) (fun z => ?_))
      have hsb : sbS k u := sub.mp z
      refine And.intro (and32_in _ _) (And.intro (fun z2 => no36 (fun q => z2 ?_)) (fun z2 => ?_))
      · refine tbe.trans ?_
        rw [if_neg (by rw [q.2]; decide)]
      · have hun : tb t k = false := by
          cases q : tb t k with
          | false => rfl
          | true =>
            rw [q, if_pos rfl] at tbe
            exact absurd (tbe.symm.trans z2) (by decide)
        refine And.intro (by decide) (And.intro (fun q => absurd q (by decide)) (fun _ => ?_))
        refine zcall_i (d' := d - 1) (by omega) (c_X2_chanceOf h k (h.1 2 4).toNat (by omega) (by omega) (by omega)) ?_
        rintro _ _ ⟨rfl, rfl⟩
        refine zcall_i (d' := d - 1) (by omega) (c_X2_chanceOf h r (h.1 2 4).toNat hr (by omega) (by omega)) ?_
        rintro _ _ ⟨rfl, rfl⟩
        have bk := b1 k
        have br := b1 r
        refine And.intro (by omega) (And.intro (by omega) (And.intro (fun z3 => ?_) (fun z3 => ?_)))
        · exact zJ_le (stay (fun q => absurd q.2.2 (Int.not_lt.mpr z3))) (And.intro rfl (And.intro rfl (And.intro rfl (And.intro rfl (And.intro rfl trivial))))) rfl rfl
        · have hlt : ch h r < ch h k := Int.not_le.mp z3
          refine zJ_le (ih (k + 1) k (by omega) (by omega) (by omega) ⟨Or.inr ⟨k1, by omega, hsb, hun⟩, fun s s1 s2 s3 s4 => ?_, fun s s1 s2 s3 s4 => ?_⟩) (And.intro rfl (And.intro rfl (And.intro rfl (And.intro rfl (And.intro rfl trivial))))) rfl rfl
          · by_cases e : s = k
            · subst e
              exact Int.le_refl _
            · have := l2 s s1 (by omega) s3 s4
              omega
          · have := l2 s s1 s2 s3 s4
            omega
  refine zrun_sound t_X8_likeliestUntried C E [5] 60 _ _ _ _ ?_
  exact zJ_le (loop u 1 0 (by omega) (by omega) (by omega) ⟨Or.inl rfl, fun s s1 s2 => absurd s2 (by omega), fun s s1 s2 => absurd s2 (by omega)⟩) (And.intro rfl (And.intro rfl (And.intro rfl (And.intro rfl (And.intro rfl trivial))))) rfl rfl
