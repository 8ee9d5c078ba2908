/-! ===== judge, wet, chance: the class ===== -/
theorem Isea_5 {g g2 : zH} (hs : Isea g) (hf : fr fr5 g g2) : Isea g2 := by
  have e := fun c (q : c ≠ 5) => (funext fun i => (hf c i (by simp [fr5]; omega)).1 : g2.1 c = g.1 c)
  exact Isea_c hs (fun c a b => e c (by omega)) (e 2 (by omega)) ⟨by rw [e 3 (by omega)], by rw [e 3 (by omega)]⟩ (e 33 (by omega)) (e 34 (by omega))
theorem WR_k {R R' : Nat → Nat → Int} {σ P N n : Nat} (e : ∀ c, (25 ≤ c ∧ c ≤ 32) ∨ c = 39 → R' c = R c) (h : WR R σ P N n) : WR R' σ P N n := by
  unfold WR at *
  rw [e 25 (by omega), e 26 (by omega), e 27 (by omega), e 28 (by omega), e 29 (by omega), e 30 (by omega), e 31 (by omega), e 32 (by omega), e 39 (by omega)]
  exact h
/-- the sea in one wind -/
abbrev hi1 (h : zH) (c : Int) (w : Nat) : Nat → Int := hiQ h (c % 10).toNat (2 ^ w) (h.1 2 4).toNat
/-- how the plan goes in wind w: the first move that does not go (-2: none), and how far it came -/
abbrev plR (h : zH) (a c : Int) (w : Nat) (r : Int) (k : Nat) : Prop := walkR h.1 (c / 10).toNat (hi1 h c w) (a / 10000).toNat (a % 10000).toNat (h.1 5 3).toNat r k
abbrev plS (h : zH) (a c : Int) (k : Nat) : Nat × Nat × Nat := wkS h.1 (c / 10).toNat (a / 10000).toNat (a % 10000).toNat k
/-- rise, then walk, in one wind -/
theorem c_walkX {d : Nat} (hd : 4 ≤ d) (h g : zH) (a c : Int) (w : Nat) (hV : VV h) (hP : Iplan h) (ha : okF h a) (hc : okT h c) (hw : w < (h.1 2 4).toNat) (hf : fr frW h g) (h34 : ∀ m : Nat, m < 1440 → g.1 34 m = hi1 h c w m) :
    zC d k_X3_walk [sR 5, sI a, sI (c / 10)] g (fun o g2 => fr fr5 g g2 ∧ ∃ (r : Int) (k : Nat), o = some (sI r) ∧ plR h a c w r k ∧ WC h.1 (hi1 h c w) g2 (plS h a c k).1 (plS h a c k).2.1 (plS h a c k).2.2) := by
  obtain ⟨hv1, hv2, hv3, hv4, hv5⟩ := id hV.1
  obtain ⟨a1, a2, a3⟩ := ha
  obtain ⟨c1, c2, c3⟩ := hc
  have hR := WR_of (σ := (c / 10).toNat) hV hP (by omega)
  have e := fun c (q : ∀ i, frW c i = false) => (funext fun i => (hf c i (q i)).1 : g.1 c = h.1 c)
  have hwk := c_X3_walk hd g h.1 (c / 10).toNat _ _ _ (hi1 h c w) a (a / 10000).toNat (a % 10000).toNat hR (fun c hc => e c (fun i => by simp [frW, frK]; omega)) h34 (by rw [(hf 5 3 rfl).1]; have := hP.2.1; omega) ⟨a1, by omega⟩ (by omega) (by omega) (by omega) (by omega) (fun j _ => by
    have := hiQ_b (h := h) (t := (c % 10).toNat) (s := 2 ^ w) (m := j) hV (by omega) rfl
    unfold hi1
    omega)
  rw [show (((c / 10).toNat : Nat) : Int) = c / 10 by omega] at hwk
  exact hwk
def okJ (h : zH) (a c e : Int) : Prop := okF h a ∧ okT h c ∧ 0 ≤ e ∧ e < h.1 2 4
def judgeA (h : zH) (a c e f r : Int) : Prop := (¬ (okJ h a c e ∧ 0 ≤ f ∧ f ≤ 2) ∧ r = -1) ∨ ((okJ h a c e ∧ 0 ≤ f ∧ f ≤ 2) ∧ ∃ (x : Int) (k : Nat), plR h a c e.toNat x k ∧ r = if f = 0 then x else if f = 1 then ((plS h a c k).2.1 : Int) else ((plS h a c k).1 : Int))
theorem judgeA_u {h : zH} {a c e f r r' : Int} (x : judgeA h a c e f r) (y : judgeA h a c e f r') : r = r' := by
  rcases x with ⟨x1, x2⟩ | ⟨x1, v, k, x2, x3⟩ <;> rcases y with ⟨y1, y2⟩ | ⟨y1, v', k', y2, y3⟩
  · omega
  · exact absurd y1 x1
  · exact absurd x1 y1
  · obtain ⟨rfl, rfl⟩ := walkR_u x2 y2
    rw [x3, y3]
/-- g tells of h's coast and plan: for both sides' walks -/
def kpJ (h g : zH) : Prop := (∀ c, c = 2 ∨ (19 ≤ c ∧ c ≤ 32) ∨ c = 39 → g.1 c = h.1 c) ∧ g.1 5 3 = h.1 5 3
theorem wk_c {R R' : Nat → Nat → Int} {σ p0 m0 : Nat} (e : ∀ c, (25 ≤ c ∧ c ≤ 32) ∨ c = 39 → R' c = R c) : wkS R' σ p0 m0 = wkS R σ p0 m0 := funext fun k => by
  induction k with
  | zero => rfl
  | succ k ih =>
    show (nxP R' (R' 39 k) (wkS R' σ p0 m0 k).1, nxM R' σ (R' 39 k) (wkS R' σ p0 m0 k).2.1 (wkS R' σ p0 m0 k).2.2, nxY (R' 39 k) (wkS R' σ p0 m0 k).2.2) = _
    rw [ih]
    unfold nxP nxM
    rw [e 26 (by omega), e 27 (by omega), e 28 (by omega), e 32 (by omega), e 39 (by omega)]
    rfl
theorem mv_c {R R' : Nat → Nat → Int} {σ : Nat} {hi : Nat → Int} (e : ∀ c, (25 ≤ c ∧ c ≤ 32) ∨ c = 39 → R' c = R c) : mvOK R' σ hi = mvOK R σ hi := by
  funext v p m y
  unfold mvOK
  rw [e 25 (by omega), e 26 (by omega), e 27 (by omega), e 28 (by omega), e 29 (by omega), e 30 (by omega), e 31 (by omega), e 32 (by omega)]
theorem walkR_c {R R' : Nat → Nat → Int} {σ p0 m0 n : Nat} {hi : Nat → Int} (e : ∀ c, (25 ≤ c ∧ c ≤ 32) ∨ c = 39 → R' c = R c) : walkR R' σ hi p0 m0 n = walkR R σ hi p0 m0 n := by
  funext r k
  unfold walkR okN
  rw [wk_c e, mv_c e, e 39 (by omega)]
theorem kpJ_pl {h g : zH} (k : kpJ h g) (a c : Int) (w : Nat) : plR g a c w = plR h a c w ∧ plS g a c = plS h a c ∧ hi1 g c w = hi1 h c w := by
  obtain ⟨e, e5⟩ := k
  have e3 : hi1 g c w = hi1 h c w := by
    unfold hi1 hiQ seaC
    rw [e 2 (by omega), e 19 (by omega), e 20 (by omega), e 21 (by omega), e 22 (by omega), e 23 (by omega)]
  have e' : ∀ c, (25 ≤ c ∧ c ≤ 32) ∨ c = 39 → g.1 c = h.1 c := fun c hc => e c (by omega)
  refine ⟨?_, ?_, e3⟩
  · unfold plR
    rw [e3, e5]
    exact walkR_c e'
  · unfold plS
    exact wk_c e'
theorem kpJ_ok {h g : zH} (k : kpJ h g) : okJ g = okJ h ∧ okF g = okF h ∧ okT g = okT h := by
  unfold okJ okF okT
  rw [k.1 2 (by omega)]
  exact ⟨rfl, rfl, rfl⟩
theorem judgeA_k {h g : zH} (k : kpJ h g) {a c e f r : Int} (x : judgeA g a c e f r) : judgeA h a c e f r := by
  obtain ⟨k1, k2, -⟩ := kpJ_pl k a c e.toNat
  unfold judgeA at *
  rw [(kpJ_ok k).1, k1, k2] at x
  exact x
theorem kpJ_W {h g : zH} (hf : fr frW h g) : kpJ h g := ⟨fun c hc => funext fun i => (hf c i (by simp [frW, frK]; omega)).1, (hf 5 3 rfl).1⟩
theorem frW_t {h g f : zH} (a : fr frW h g) (b : fr frW g f) : fr frW h f := fr_trans a b
set_option maxHeartbeats 1000000 in
theorem c_X8_judge {d : Nat} (hd : 6 ≤ d) (h : zH) (a c e f : Int) (ha : inR a) (hc : inR c) (he : inR e) (hf : inR f) (hV : VV h) (hI : Isea h) (hP : Iplan h) :
    zC d k_X8_judge [sR 0, sI a, sI c, sI e, sI f] h (fun o g => fr frW h g ∧ Isea g ∧ ∃ r : Int, o = some (sI r) ∧ judgeA h a c e f r) := by
  obtain ⟨hv1, hv2, hv3, hv4, hv5⟩ := id hV.1
  have hd1 : d - 1 + 1 ≤ d := by omega
  have r0 : fr frW h h := fr_rfl _ _
  refine zC_of (by decide +kernel) (Nat.le_of_ble_eq_true rfl) (fun X C E => zrun_sound t_X8_judge C E [] 80 _ _ _ _ ?_)
  refine zcall_i (d' := d - 1) hd1 (c_X8_isFrom (by omega) h a ha hv3) ?_
  rintro _ _ ⟨rfl, rfl⟩
  refine And.intro g_in (And.intro (fun c1 => And.intro r0 (And.intro hI ⟨_, rfl, Or.inl ⟨fun z => g_f c1 z.1.1, rfl⟩⟩)) (fun c1 => ?_))
  refine zcall_i (d' := d - 1) hd1 (c_X8_isSortAndTide (by omega) h c hc hv1) ?_
  rintro _ _ ⟨rfl, rfl⟩
  refine And.intro g_in (And.intro (fun c2 => And.intro r0 (And.intro hI ⟨_, rfl, Or.inl ⟨fun z => g_f c2 z.1.2.1, rfl⟩⟩)) (fun c2 => ?_))
  refine zcall_i (d' := d - 1) hd1 (c_X8_within h e 0 (h.1 2 4 - 1) he (by omega) (by omega)) ?_
  rintro _ _ ⟨rfl, rfl⟩
  refine And.intro g_in (And.intro (fun c3 => And.intro r0 (And.intro hI ⟨_, rfl, Or.inl ⟨fun z => g_f c3 ⟨z.1.2.2.1, by have := z.1.2.2.2; omega⟩, rfl⟩⟩)) (fun c3 => ?_))
  refine zcall_i (d' := d - 1) hd1 (c_X8_within h f 0 2 hf (by omega) (by omega)) ?_
  rintro _ _ ⟨rfl, rfl⟩
  refine And.intro g_in (And.intro (fun c4 => ?_) (fun c4 => And.intro r0 (And.intro hI ⟨_, rfl, Or.inl ⟨fun z => g_f c4 z.2, rfl⟩⟩)))
  have q1 := g_t c1
  replace q1 : okF h a := q1
  have q2 := g_t c2
  replace q2 : okT h c := q2
  have q3 := g_t c3
  have q4 := g_t c4
  have q : okJ h a c e ∧ 0 ≤ f ∧ f ≤ 2 := ⟨⟨q1, q2, q3.1, by omega⟩, q4⟩
  obtain ⟨oc1, oc2, oc3⟩ := id q2
  have ew : e = ((e.toNat : Nat) : Int) := by omega
  have es : shl32 1 e = ((2 ^ e.toNat : Nat) : Int) := by
    have := shl1_w (w := e.toNat) (by omega)
    rw [← ew] at this
    exact this
  refine And.intro ⟨oc1, by omega⟩ (And.intro (by decide) ?_)
  refine zcall_i (d' := d - 1) hd1 (c_riseX (by omega) h (c % 10) _ (c % 10).toNat (2 ^ e.toNat) hV hI (by omega) es (by omega) (pw_ok (by omega))) ?_
  rintro _ g ⟨rfl, hf1, hs1, h34⟩
  refine And.intro ⟨oc1, by omega⟩ (And.intro (by decide) ?_)
  refine zcall_i (d' := d - 1) hd1 (c_walkX (by omega) h g a c e.toNat hV hP q1 q2 (by omega) (frW_K hf1) h34) ?_
  rintro _ g2 ⟨hf2, x, k, rfl, hx, hW⟩
  have hff : fr frW h g2 := fr_trans (frW_K hf1) (frW_5 hf2)
  have hss := Isea_5 hs1 hf2
  refine And.intro hf (And.intro (fun z => ?_) (fun z => ?_))
  · refine And.intro hf (And.intro (by decide) (And.intro (fun z2 => ?_) (fun z2 => ?_)))
    · exact And.intro hff (And.intro hss ⟨_, rfl, Or.inr ⟨q, x, k, hx, by rw [if_neg z, if_neg z2]; exact hW.2.2.1⟩⟩)
    · exact And.intro hff (And.intro hss ⟨_, rfl, Or.inr ⟨q, x, k, hx, by rw [if_neg z, if_pos z2]; exact hW.2.2.2.1⟩⟩)
  · exact And.intro hff (And.intro hss ⟨_, rfl, Or.inr ⟨q, x, k, hx, by rw [if_pos z]⟩⟩)
/-! wet: the walker at p m y; N ways -/
def wetR (R : Nat → Nat → Int) (σ : Nat) (hi : Nat → Int) (N p m y : Nat) (r : Int) : Prop := ∃ E : Nat, (m ≤ E ∧ E ≤ 1439) ∧ ¬ wtP hi (R 25 p) E ∧ (∀ t : Nat, m ≤ t → t < E → wtP hi (R 25 p) t) ∧ ((E = 1439 ∧ r = -2) ∨ (E < 1439 ∧ (∃ w : Nat, w < N ∧ (R 26 w = p ∨ R 27 w = p) ∧ goP (R 30 w) (R 31 w) (takeF (R 28 w) (R 32 σ) y) hi (R 29 w) E) ∧ r = -2) ∨ (E < 1439 ∧ (¬ ∃ w : Nat, w < N ∧ (R 26 w = p ∨ R 27 w = p) ∧ goP (R 30 w) (R 31 w) (takeF (R 28 w) (R 32 σ) y) hi (R 29 w) E) ∧ r = E))
theorem wetR_u {R : Nat → Nat → Int} {σ : Nat} {hi : Nat → Int} {N p m y : Nat} {r r' : Int} (x : wetR R σ hi N p m y r) (z : wetR R σ hi N p m y r') : r = r' := by
  obtain ⟨E, x1, x2, x3, x4⟩ := x
  obtain ⟨E', z1, z2, z3, z4⟩ := z
  have eE : E = E' := by
    rcases (by omega : E < E' ∨ E' < E ∨ E = E') with q | q | q
    · exact absurd (z3 E x1.1 q) x2
    · exact absurd (x3 E' z1.1 q) z2
    · exact q
  subst eE
  rcases x4 with ⟨a1, a2⟩ | ⟨a1, a2, a3⟩ | ⟨a1, a2, a3⟩ <;> rcases z4 with ⟨b1, b2⟩ | ⟨b1, b2, b3⟩ | ⟨b1, b2, b3⟩ <;> first | omega | exact absurd a2 b2 | exact absurd b2 a2
theorem wetR_c {R R' : Nat → Nat → Int} {σ : Nat} {hi : Nat → Int} {N p m y : Nat} (e : ∀ c, (25 ≤ c ∧ c ≤ 32) ∨ c = 39 → R' c = R c) : wetR R' σ hi N p m y = wetR R σ hi N p m y := by
  funext r
  unfold wetR
  rw [e 25 (by omega), e 26 (by omega), e 27 (by omega), e 28 (by omega), e 29 (by omega), e 30 (by omega), e 31 (by omega), e 32 (by omega)]
set_option maxHeartbeats 2000000 in
theorem c_X3_shutIn {d : Nat} (hd : 3 ≤ d) (g : zH) (R : Nat → Nat → Int) (σ P N n : Nat) (hi : Nat → Int) (p m y : Nat) (hR : WR R σ P N n) (hW : WC R hi g p m y) (hp : p < P) (hm : m < 1440) (hy : y ≤ 3) (hN : g.1 2 10 = N) (hb : ∀ j : Nat, j < 1440 → inR (hi j)) :
    zC d k_X3_shutIn [sR 5, sI σ] g (fun o g2 => g = g2 ∧ ∃ r : Int, o = some (sI r) ∧ wetR R σ hi N p m y r) := by
  have hR2 := hR
  have hW2 := hW
  obtain ⟨r1, r2, r3, r4, r5, r6, r7, r8, r9⟩ := hR2
  obtain ⟨hr, h34, e4, e5, e6⟩ := hW2
  have e25 := hr 25 (by omega)
  have hsf := r8 p (by omega)
  have hd1 : d - 1 + 1 ≤ d := by omega
  have hdd : 1 ≤ d := by omega
  have fa := c_X4_firstAbove (d := d - 1) g (R 25 p) m (by omega) (by omega) (fun j hj => by rw [h34 j hj]; exact hb j hj)
  refine zC_of (by decide +kernel) (Nat.le_of_ble_eq_true rfl) (fun X C EE => ?_)
  have loop : ∀ E : Nat, E < 1439 → (m ≤ E) → ¬ wtP hi (R 25 p) E → (∀ t : Nat, m ≤ t → t < E → wtP hi (R 25 p) t) → ∀ (f w : Nat), w + f = N → (∀ v : Nat, v < w → ¬ ((R 26 v = p ∨ R 27 v = p) ∧ goP (R 30 v) (R 31 v) (takeF (R 28 v) (R 32 σ) y) hi (R 29 v) E)) → zJ X 45 [some (sR 5), some (sI σ), some (sI E), some (sI w)] [] g := by
    intro E hE hmE hn hall f
    induction f with
    | zero =>
      intro w hw hno
      refine zrun_sound t_X3_shutIn C EE [] 60 _ _ _ _ ?_
      refine And.intro (by omega) (And.intro (by omega) (And.intro (fun _ => ?_) (fun z => absurd (by omega) z)))
      exact And.intro rfl ⟨_, rfl, E, ⟨hmE, by omega⟩, hn, hall, Or.inr (Or.inr ⟨hE, fun ⟨v, v1, v2⟩ => hno v (by omega) v2, rfl⟩)⟩
    | succ f ih =>
      intro w hw hno
      have e := r5 w (by omega)
      have nxt : ¬ ((R 26 w = p ∨ R 27 w = p) ∧ goP (R 30 w) (R 31 w) (takeF (R 28 w) (R 32 σ) y) hi (R 29 w) E) → zJ X 81 [some (sR 5), some (sI σ), some (sI E), some (sI w)] [] g := by
        intro hnw
        refine zrun_sound t_X3_shutIn C EE [45] 60 _ _ _ _ ?_
        refine zJ_le (ih (w + 1) (by omega) (fun v hv => ?_)) (And.intro rfl (And.intro rfl (And.intro rfl (And.intro rfl trivial)))) rfl rfl
        by_cases ev : v = w
        · subst ev
          exact hnw
        · exact hno v (by omega)
      refine zrun_sound t_X3_shutIn C EE [81] 60 _ _ _ _ ?_
      refine And.intro (by omega) (And.intro (by omega) (And.intro (fun z => absurd z (by omega)) (fun _ => ?_)))
      refine zcall_i (d' := d - 1) hd1 (c_X3_leadsOn g R hi p m y w hW (by omega) (by omega) (by omega) (by omega)) ?_
      rintro o g2 ⟨rfl, ⟨rfl, z⟩ | ⟨rfl, z⟩⟩
      · refine And.intro (by decide) (And.intro (fun q => absurd q (by decide)) (fun _ => ?_))
        refine zcall_i (d' := d - 1) hd1 (zC_as (by simp only [e6]) (c_wayGoesW (by omega) g R σ P N n hi p m y w E hR hW (by omega) (by omega) hy hb)) ?_
        rintro o g2 ⟨rfl, ⟨rfl, z2⟩ | ⟨rfl, z2⟩⟩
        · refine And.intro (by decide) (And.intro (fun q => absurd q (by decide)) (fun _ => ?_))
          exact And.intro rfl ⟨_, rfl, E, ⟨hmE, by omega⟩, hn, hall, Or.inr (Or.inl ⟨hE, ⟨w, by omega, z, z2⟩, rfl⟩)⟩
        · refine And.intro (by decide) (And.intro (fun _ => ?_) (fun q => absurd rfl q))
          exact nxt (fun q => z2 q.2)
      · refine And.intro (by decide) (And.intro (fun _ => ?_) (fun q => absurd rfl q))
        exact nxt (fun q => z q.1)
  refine zrun_sound t_X3_shutIn C EE [45] 60 _ _ _ _ ?_
  refine And.intro (by omega) (And.intro (by omega) ?_)
  refine zcall_i (d' := d - 1) hd1 (zC_as (by simp only [e4, e5, e25, tnat]) fa) ?_
  rintro o g2 ⟨rfl, r, rfl, q1, q2, q3, q4⟩
  refine And.intro hdd (And.intro (show inR (g.1 5 5) by omega) (And.intro (by omega) ?_))
  have spec : ¬ wtP hi (R 25 p) (max m (r - 1)) ∧ ∀ t : Nat, m ≤ t → t < max m (r - 1) → wtP hi (R 25 p) t := by
    refine ⟨fun ⟨z1, z2, z3⟩ => ?_, fun t t1 t2 => ⟨by omega, ?_, ?_⟩⟩
    · have hr14 : r < 1440 := by omega
      have q5 := q4 hr14
      rw [h34 r hr14] at q5
      by_cases e : r = m
      · rw [show max m (r - 1) = r by omega] at z2
        omega
      · rw [show max m (r - 1) + 1 = r by omega] at z3
        omega
    · rw [← h34 t (by omega)]
      exact q3 t t1 (by omega)
    · rw [← h34 (t + 1) (by omega)]
      exact q3 (t + 1) (by omega) (by omega)
  have emax : max (g.1 5 5) ((r : Int) - 1) = ((max m (r - 1) : Nat) : Int) := by rw [e5]; omega
  refine And.intro (show inR (max (g.1 5 5) ((r : Int) - 1)) by omega) (And.intro (by decide) (And.intro (fun z => ?_) (fun z => ?_)))
  · replace z : max (g.1 5 5) ((r : Int) - 1) < 1439 := z
    exact zJ_le (loop (max m (r - 1)) (by omega) (by omega) spec.1 spec.2 N 0 (by omega) (fun v hv => absurd hv (by omega))) (And.intro rfl (And.intro rfl (And.intro (congrArg sI emax.symm) (And.intro rfl trivial)))) rfl rfl
  · replace z : ¬ max (g.1 5 5) ((r : Int) - 1) < 1439 := z
    exact And.intro rfl ⟨_, rfl, max m (r - 1), ⟨by omega, by omega⟩, spec.1, spec.2, Or.inl ⟨by omega, rfl⟩⟩
def wetA (h : zH) (a c e r : Int) : Prop := (¬ okJ h a c e ∧ r = -1) ∨ (okJ h a c e ∧ ∃ (x : Int) (k : Nat), plR h a c e.toNat x k ∧ ((x = -2 ∧ r = -2) ∨ (¬ x = -2 ∧ wetR h.1 (c / 10).toNat (hi1 h c e.toNat) (h.1 2 10).toNat (plS h a c k).1 (plS h a c k).2.1 (plS h a c k).2.2 r)))
theorem wetA_u {h : zH} {a c e r r' : Int} (x : wetA h a c e r) (y : wetA h a c e r') : r = r' := by
  rcases x with ⟨x1, x2⟩ | ⟨x1, v, k, x2, x3⟩ <;> rcases y with ⟨y1, y2⟩ | ⟨y1, v', k', y2, y3⟩
  · omega
  · exact absurd y1 x1
  · exact absurd x1 y1
  · obtain ⟨rfl, rfl⟩ := walkR_u x2 y2
    rcases x3 with ⟨x3, x4⟩ | ⟨x3, x4⟩ <;> rcases y3 with ⟨y3, y4⟩ | ⟨y3, y4⟩
    · omega
    · exact absurd x3 y3
    · exact absurd y3 x3
    · exact wetR_u x4 y4
theorem wetA_k {h g : zH} (k : kpJ h g) {a c e r : Int} (x : wetA g a c e r) : wetA h a c e r := by
  obtain ⟨k1, k2, k3⟩ := kpJ_pl k a c e.toNat
  have e' : ∀ c, (25 ≤ c ∧ c ≤ 32) ∨ c = 39 → g.1 c = h.1 c := fun c hc => k.1 c (by omega)
  unfold wetA at *
  simp only [wetR_c e'] at x
  rw [(kpJ_ok k).1, k1, k2, k3, k.1 2 (by omega)] at x
  exact x
set_option maxHeartbeats 1000000 in
theorem c_X8_wet {d : Nat} (hd : 6 ≤ d) (h : zH) (a c e : Int) (ha : inR a) (hc : inR c) (he : inR e) (hV : VV h) (hI : Isea h) (hP : Iplan h) :
    zC d k_X8_wet [sR 0, sI a, sI c, sI e] h (fun o g => fr frW h g ∧ Isea g ∧ ∃ r : Int, o = some (sI r) ∧ wetA h a c e r) := by
  obtain ⟨hv1, hv2, hv3, hv4, hv5⟩ := id hV.1
  have hd1 : d - 1 + 1 ≤ d := by omega
  have r0 : fr frW h h := fr_rfl _ _
  refine zC_of (by decide +kernel) (Nat.le_of_ble_eq_true rfl) (fun X C E => zrun_sound t_X8_wet C E [] 80 _ _ _ _ ?_)
  refine zcall_i (d' := d - 1) hd1 (c_X8_isFrom (by omega) h a ha hv3) ?_
  rintro _ _ ⟨rfl, rfl⟩
  refine And.intro g_in (And.intro (fun c1 => And.intro r0 (And.intro hI ⟨_, rfl, Or.inl ⟨fun z => g_f c1 z.1, rfl⟩⟩)) (fun c1 => ?_))
  refine zcall_i (d' := d - 1) hd1 (c_X8_isSortAndTide (by omega) h c hc hv1) ?_
  rintro _ _ ⟨rfl, rfl⟩
  refine And.intro g_in (And.intro (fun c2 => And.intro r0 (And.intro hI ⟨_, rfl, Or.inl ⟨fun z => g_f c2 z.2.1, rfl⟩⟩)) (fun c2 => ?_))
  refine zcall_i (d' := d - 1) hd1 (c_X8_within h e 0 (h.1 2 4 - 1) he (by omega) (by omega)) ?_
  rintro _ _ ⟨rfl, rfl⟩
  refine And.intro g_in (And.intro (fun c3 => ?_) (fun c3 => And.intro r0 (And.intro hI ⟨_, rfl, Or.inl ⟨fun z => g_f c3 ⟨z.2.2.1, by have := z.2.2.2; omega⟩, rfl⟩⟩)))
  have q1 := g_t c1
  replace q1 : okF h a := q1
  have q2 := g_t c2
  replace q2 : okT h c := q2
  have q3 := g_t c3
  have q : okJ h a c e := ⟨q1, q2, q3.1, by omega⟩
  obtain ⟨oc1, oc2, oc3⟩ := id q2
  obtain ⟨oa1, oa2, oa3⟩ := id q1
  have ew : e = ((e.toNat : Nat) : Int) := by omega
  have es : shl32 1 e = ((2 ^ e.toNat : Nat) : Int) := by
    have := shl1_w (w := e.toNat) (by omega)
    rw [← ew] at this
    exact this
  refine And.intro ⟨oc1, by omega⟩ (And.intro (by decide) ?_)
  refine zcall_i (d' := d - 1) hd1 (c_riseX (by omega) h (c % 10) _ (c % 10).toNat (2 ^ e.toNat) hV hI (by omega) es (by omega) (pw_ok (by omega))) ?_
  rintro _ g ⟨rfl, hf1, hs1, h34⟩
  refine And.intro ⟨oc1, by omega⟩ (And.intro (by decide) ?_)
  refine zcall_i (d' := d - 1) hd1 (c_walkX (by omega) h g a c e.toNat hV hP q1 q2 (by omega) (frW_K hf1) h34) ?_
  rintro _ g2 ⟨hf2, x, k, rfl, hx, hW⟩
  have hff : fr frW h g2 := fr_trans (frW_K hf1) (frW_5 hf2)
  have hss := Isea_5 hs1 hf2
  have hR := WR_of (σ := (c / 10).toNat) hV hP (by omega)
  have kn : k ≤ (h.1 5 3).toNat := by
    rcases hx.2 with z | z <;> omega
  have xr : inR x := by
    rcases hx.2 with z | z <;> have := hP.2.1 <;> omega
  have win := wk_in hR (by omega) (by omega) k kn hx.1
  refine And.intro xr (And.intro (by decide) (And.intro (fun z => ?_) (fun z => ?_)))
  · refine And.intro ⟨oc1, by omega⟩ (And.intro (by decide) ?_)
    have hsh := c_X3_shutIn (d := d - 1) (by omega) g2 h.1 (c / 10).toNat _ _ _ (hi1 h c e.toNat) _ _ _ hR hW win.1 win.2.1 win.2.2 (by rw [(hff 2 10 rfl).1]; omega) (fun j _ => by
      have := hiQ_b (h := h) (t := (c % 10).toNat) (s := 2 ^ e.toNat) (m := j) hV (by omega) rfl
      unfold hi1
      omega)
    rw [show (((c / 10).toNat : Nat) : Int) = c / 10 by omega] at hsh
    refine zcall_i (d' := d - 1) hd1 hsh ?_
    rintro _ _ ⟨rfl, r, rfl, hr⟩
    exact And.intro hff (And.intro hss ⟨_, rfl, Or.inr ⟨q, x, k, hx, Or.inr ⟨z, hr⟩⟩⟩)
  · exact And.intro hff (And.intro hss ⟨_, rfl, Or.inr ⟨q, x, k, hx, Or.inl ⟨z, rfl⟩⟩⟩)
/-! chance -/
def goesW (h : zH) (a c : Int) (w : Nat) : Prop := okN h.1 (c / 10).toNat (hi1 h c w) (a / 10000).toNat (a % 10000).toNat (h.1 5 3).toNat
theorem plR_2 {h : zH} {a c : Int} {w : Nat} {r : Int} {k : Nat} (hx : plR h a c w r k) : r = -2 ↔ goesW h a c w := by
  obtain ⟨h1, ⟨h2, h3⟩ | ⟨h2, h3, h4⟩⟩ := hx
  · subst h3
    exact ⟨fun _ => h1, fun _ => h2⟩
  · exact ⟨fun z => by omega, fun z => absurd (z k h3) h4⟩
def chanceA (h : zH) (a c r : Int) : Prop := (¬ (okF h a ∧ okT h c) ∧ r = -1) ∨ ((okF h a ∧ okT h c) ∧ ∃ s : Nat, s < 2 ^ (h.1 2 4).toNat ∧ (∀ w : Nat, w < (h.1 2 4).toNat → (s / 2 ^ w % 2 = 1 ↔ goesW h a c w)) ∧ r = thF h s)
theorem chF_u {f : Nat → Int} {s s' : Nat} : ∀ n : Nat, (∀ w, w < n → (s / 2 ^ w % 2 = 1 ↔ s' / 2 ^ w % 2 = 1)) → chF f s n = chF f s' n
  | 0, _ => rfl
  | n + 1, h => by
    unfold chF
    rw [chF_u n (fun w hw => h w (by omega))]
    by_cases q : s / 2 ^ n % 2 = 1
    · rw [if_pos q, if_pos ((h n (by omega)).mp q)]
    · rw [if_neg q, if_neg (fun z => q ((h n (by omega)).mpr z))]
theorem chanceA_u {h : zH} {a c r r' : Int} (x : chanceA h a c r) (y : chanceA h a c r') : r = r' := by
  rcases x with ⟨x1, x2⟩ | ⟨x1, s, x2, x3, x4⟩ <;> rcases y with ⟨y1, y2⟩ | ⟨y1, s', y2, y3, y4⟩
  · omega
  · exact absurd y1 x1
  · exact absurd x1 y1
  · rw [x4, y4]
    unfold thF
    rw [chF_u (s := s) (s' := s') _ (fun w hw => (x3 w hw).trans (y3 w hw).symm)]
theorem chanceA_k {h g : zH} (k : kpJ h g) (e24 : g.1 24 = h.1 24) {a c r : Int} (x : chanceA g a c r) : chanceA h a c r := by
  have e1 : goesW g a c = goesW h a c := funext fun w => by
    obtain ⟨k1, k2, k3⟩ := kpJ_pl k a c w
    have e' : ∀ c, (25 ≤ c ∧ c ≤ 32) ∨ c = 39 → g.1 c = h.1 c := fun c hc => k.1 c (by omega)
    unfold goesW okN
    rw [k3, k.2, wk_c e', mv_c e', e' 39 (by omega)]
  have e2 : thF g = thF h := funext fun s => by
    unfold thF aw
    rw [e24, k.1 2 (by omega)]
  unfold chanceA at *
  rw [e1, e2, (kpJ_ok k).2.1, (kpJ_ok k).2.2, k.1 2 (by omega)] at x
  exact x
set_option maxHeartbeats 1000000 in
theorem c_X8_chance {d : Nat} (hd : 7 ≤ d) (h : zH) (a c : Int) (ha : inR a) (hc : inR c) (hV : VV h) (hI : Isea h) (hP : Iplan h) :
    zC d k_X8_chance [sR 0, sI a, sI c] h (fun o g => fr frW h g ∧ Isea g ∧ ∃ r : Int, o = some (sI r) ∧ chanceA h a c r) := by
  obtain ⟨hv1, hv2, hv3, hv4, hv5⟩ := id hV.1
  have hd1 : d - 1 + 1 ≤ d := by omega
  have r0 : fr frW h h := fr_rfl _ _
  have VV_W : ∀ H : zH, fr frW h H → VV H := fun H hf => by
    have e := fun c (q : ∀ i, frW c i = false) => (funext fun i => (hf c i (q i)).1 : H.1 c = h.1 c)
    unfold VV Vn Vt Vw Vp Vy Vh Vs at *
    rw [e 2 (fun i => rfl), e 19 (fun i => rfl), e 20 (fun i => rfl), e 21 (fun i => rfl), e 22 (fun i => rfl), e 23 (fun i => rfl), e 24 (fun i => rfl), e 25 (fun i => rfl), e 26 (fun i => rfl), e 27 (fun i => rfl), e 28 (fun i => rfl), e 29 (fun i => rfl), e 30 (fun i => rfl), e 31 (fun i => rfl), e 32 (fun i => rfl)]
    exact hV
  have IP_W : ∀ H : zH, fr frW h H → Iplan H := fun H hf => by
    have e := fun c (q : ∀ i, frW c i = false) => (funext fun i => (hf c i (q i)).1 : H.1 c = h.1 c)
    unfold Iplan at *
    rw [(hf 5 3 rfl).1, e 2 (fun i => rfl), e 39 (fun i => rfl), e 52 (fun i => rfl), e 74 (fun i => rfl)]
    exact hP
  refine zC_of (by decide +kernel) (Nat.le_of_ble_eq_true rfl) (fun X C E => ?_)
  have loop : okF h a → okT h c → ∀ (f w : Nat) (H : zH), w + f = (h.1 2 4).toNat → fr frW h H → Isea H → zJ X 23 [some (sR 0), some (sI a), some (sI c), some (sI (bitsF (goesW h a c) w)), some (sI w)] [] H := by
    intro oa oc f
    induction f with
    | zero =>
      intro w H hw hf hs
      have e4 : H.1 2 4 = h.1 2 4 := (hf 2 4 rfl).1
      obtain ⟨s, s1, s2, s3⟩ := bitsF_nat (goesW h a c) (h.1 2 4).toNat (by omega)
      have : w = (h.1 2 4).toNat := by omega
      subst this
      have s32 : s < 32 := Nat.lt_of_lt_of_le s2 (Nat.pow_le_pow_right (by omega) (show (h.1 2 4).toNat ≤ 5 by omega))
      have et : thF H s = thF h s := by
        unfold thF aw
        rw [show H.1 24 = h.1 24 from funext fun i => (hf 24 i rfl).1, show H.1 2 = h.1 2 from funext fun i => (hf 2 i rfl).1]
      refine zrun_sound t_X8_chance C E [] 60 _ _ _ _ ?_
      refine And.intro (by omega) (And.intro (by omega) (And.intro (fun _ => ?_) (fun z => absurd (by omega) z)))
      have hth := c_X2_thousandths (d := d - 1) (by omega) H s s32 (VV_W H hf)
      rw [← s1] at hth
      refine zcall_i (d' := d - 1) hd1 hth ?_
      rintro _ _ ⟨rfl, rfl⟩
      exact And.intro hf (And.intro hs ⟨_, rfl, Or.inr ⟨⟨oa, oc⟩, s, s2, s3, et⟩⟩)
    | succ f ih =>
      intro w H hw hf hs
      have e4 : H.1 2 4 = h.1 2 4 := (hf 2 4 rfl).1
      obtain ⟨oc1, oc2, oc3⟩ := id oc
      have kj := kpJ_W hf
      have oa' : okF H a := by rw [(kpJ_ok kj).2.1]; exact oa
      have oc' : okT H c := by rw [(kpJ_ok kj).2.2]; exact oc
      obtain ⟨k1, k2, k3⟩ := kpJ_pl kj a c w
      refine zrun_sound t_X8_chance C E [23, 74] 80 _ _ _ _ ?_
      refine And.intro (by omega) (And.intro (by omega) (And.intro (fun z => absurd z (by omega)) (fun _ => ?_)))
      refine And.intro ⟨oc1, by omega⟩ (And.intro (by decide) ?_)
      refine zcall_i (d' := d - 1) hd1 (c_riseX (by omega) H (c % 10) _ (c % 10).toNat (2 ^ w) (VV_W H hf) hs (by omega) (shl1_w (by omega)) (by rw [(hf 2 0 rfl).1]; omega) (pw_ok (by rw [e4]; omega))) ?_
      rintro _ g ⟨rfl, hf1, hs1, h34⟩
      refine And.intro ⟨oc1, by omega⟩ (And.intro (by decide) ?_)
      refine zcall_i (d' := d - 1) hd1 (c_walkX (by omega) H g a c w (VV_W H hf) (IP_W H hf) oa' oc' (by rw [e4]; omega) (frW_K hf1) h34) ?_
      rintro _ g2 ⟨hf2, x, k, rfl, hx, -⟩
      rw [k1] at hx
      have x2 := plR_2 hx
      have xr : inR x := by
        rcases hx.2 with z | z <;> have := hP.2.1 <;> omega
      have nx := ih (w + 1) g2 (by omega) (fr_trans hf (fr_trans (frW_K hf1) (frW_5 hf2))) (Isea_5 hs1 hf2)
      have at74 : zJ X 74 [some (sR 0), some (sI a), some (sI c), some (sI (bitsF (goesW h a c) (w + 1))), some (sI w)] [] g2 := by
        refine zrun_sound t_X8_chance C E [23] 60 _ _ _ _ ?_
        exact zJ_le nx (And.intro rfl (And.intro rfl (And.intro rfl (And.intro rfl (And.intro rfl trivial))))) rfl rfl
      refine And.intro xr (And.intro (by decide) (And.intro (fun z => ?_) (fun z => ?_)))
      · rw [bitsF_0 (fun q => z (x2.mpr q))] at at74
        exact zJ_le at74 (And.intro rfl (And.intro rfl (And.intro rfl (And.intro rfl (And.intro rfl trivial))))) rfl rfl
      · rw [bitsF_1 (x2.mp z)] at at74
        exact zJ_le at74 (And.intro rfl (And.intro rfl (And.intro rfl (And.intro rfl (And.intro rfl trivial))))) rfl rfl
  refine zrun_sound t_X8_chance C E [23] 60 _ _ _ _ ?_
  refine zcall_i (d' := d - 1) hd1 (c_X8_isFrom (by omega) h a ha hv3) ?_
  rintro _ _ ⟨rfl, rfl⟩
  refine And.intro g_in (And.intro (fun c1 => And.intro r0 (And.intro hI ⟨_, rfl, Or.inl ⟨fun z => g_f c1 z.1, rfl⟩⟩)) (fun c1 => ?_))
  refine zcall_i (d' := d - 1) hd1 (c_X8_isSortAndTide (by omega) h c hc hv1) ?_
  rintro _ _ ⟨rfl, rfl⟩
  refine And.intro g_in (And.intro (fun c2 => ?_) (fun c2 => And.intro r0 (And.intro hI ⟨_, rfl, Or.inl ⟨fun z => g_f c2 z.2, rfl⟩⟩)))
  have q1 := g_t c1
  replace q1 : okF h a := q1
  have q2 := g_t c2
  replace q2 : okT h c := q2
  exact zJ_le (loop q1 q2 (h.1 2 4).toNat 0 h (by omega) r0 hI) (And.intro rfl (And.intro rfl (And.intro rfl (And.intro rfl (And.intro rfl trivial))))) rfl rfl
