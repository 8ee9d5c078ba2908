/-! ===== when a way is open ===== -/
noncomputable def opC (φ : Nat → Prop) : Nat → Int
  | 0 => 0
  | n + 1 => @ite Int (φ n) (Classical.propDecidable (φ n)) (opC φ n + 1) (opC φ n)
noncomputable def opA (φ : Nat → Prop) : Nat → Int
  | 0 => -2
  | n + 1 => @ite Int (φ n) (Classical.propDecidable (φ n)) (if opA φ n = -2 then (n : Int) else opA φ n) (opA φ n)
noncomputable def opL (φ : Nat → Prop) : Nat → Int
  | 0 => -2
  | n + 1 => @ite Int (φ n) (Classical.propDecidable (φ n)) (n : Int) (opL φ n)
theorem op_1 {φ : Nat → Prop} {n : Nat} (h : φ n) : opC φ (n + 1) = opC φ n + 1 ∧ opA φ (n + 1) = (if opA φ n = -2 then (n : Int) else opA φ n) ∧ opL φ (n + 1) = n := ⟨if_pos h, if_pos h, if_pos h⟩
theorem op_0 {φ : Nat → Prop} {n : Nat} (h : ¬ φ n) : opC φ (n + 1) = opC φ n ∧ opA φ (n + 1) = opA φ n ∧ opL φ (n + 1) = opL φ n := ⟨if_neg h, if_neg h, if_neg h⟩
theorem op_b (φ : Nat → Prop) : ∀ n : Nat, opA φ n = -2 ∨ (0 ≤ opA φ n ∧ opA φ n ≤ n)
  | 0 => Or.inl rfl
  | n + 1 => by
    have := op_b φ n
    by_cases h : φ n
    · rw [(op_1 h).2.1]
      split <;> omega
    · rw [(op_0 h).2.1]
      omega
theorem op_skip {φ : Nat → Prop} {a : Nat} : ∀ k : Nat, (∀ j, a ≤ j → j < a + k → ¬ φ j) → opC φ (a + k) = opC φ a ∧ opA φ (a + k) = opA φ a ∧ opL φ (a + k) = opL φ a
  | 0, _ => ⟨rfl, rfl, rfl⟩
  | k + 1, h => by
    obtain ⟨a1, a2, a3⟩ := op_skip k (fun j h1 h2 => h j h1 (by omega))
    obtain ⟨b1, b2, b3⟩ := op_0 (h (a + k) (by omega) (by omega))
    exact ⟨b1.trans a1, b2.trans a2, b3.trans a3⟩
/-- way w goes at minute m, for one fresh -/
def opP (h : zH) (a c : Int) (s : Nat) (m : Nat) : Prop := goP (h.1 30 a.toNat) (h.1 31 a.toNat) (tkC h (c / 10).toNat a.toNat 0) (hiQ h (c % 10).toNat s (h.1 2 4).toNat) (h.1 29 a.toNat) m
def okO (h : zH) (a c e f : Int) : Prop := okY h a ∧ okT h c ∧ okW h e ∧ 0 ≤ f ∧ f ≤ 2
noncomputable def opV (φ : Nat → Prop) (f : Int) (n : Nat) : Int := if f = 0 then opC φ n else if f = 1 then opA φ n else opL φ n
def openA (h : zH) (a c e f r : Int) : Prop := (¬ okO h a c e f ∧ r = -1) ∨ (okO h a c e f ∧ r = opV (opP h a c e.toNat) f 1440)
theorem openA_u {h : zH} {a c e f r r' : Int} (x : openA h a c e f r) (y : openA h a c e f r') : r = r' := by
  rcases x with ⟨x1, x2⟩ | ⟨x1, x2⟩ <;> rcases y with ⟨y1, y2⟩ | ⟨y1, y2⟩ <;> first | exact absurd x1 y1 | exact absurd y1 x1 | rw [x2, y2]
theorem kpR_hiQ {h g : zH} (k : kpR h g) (t s n : Nat) : hiQ g t s n = hiQ h t s n := by
  have e := k.1
  unfold hiQ seaC
  rw [e 19 rfl, e 20 rfl, e 21 rfl, e 22 rfl, e 23 rfl]
theorem openA_k {h g : zH} (k : kpR h g) {a c e f r : Int} (x : openA g a c e f r) : openA h a c e f r := by
  obtain ⟨k1, k2, k3, k4⟩ := kpR_ok k
  have e1 : okO g a c e f = okO h a c e f := by
    unfold okO okY okW
    rw [k3, k4]
  have e2 : opP g a c e.toNat = opP h a c e.toNat := by
    unfold opP tkC
    rw [kpR_hiQ k, k.1 2 rfl, k.1 28 rfl, k.1 29 rfl, k.1 30 rfl, k.1 31 rfl, k.1 32 rfl]
  unfold openA at *
  rw [e1, e2] at x
  exact x
/-- the sea rises; the rest is as it was -/
theorem c_riseX {d : Nat} (hd : 3 ≤ d) (h : zH) (t' s' : Int) (t s : Nat) (hV : VV h) (hI : Isea h) (et : t' = t) (es : s' = s) (ht : (t : Int) < h.1 2 0) (hs : 1 ≤ s ∧ s < 2 ^ (h.1 2 4).toNat) :
    zC d k_X4_rise [sR 3, sI t', sI s'] h (fun o g => o = none ∧ fr frK h g ∧ Isea g ∧ ∀ m : Nat, m < 1440 → g.1 34 m = hiQ h t s (h.1 2 4).toNat m) := by
  subst et
  subst es
  have hv2 := hV.1.2.1
  refine zC_mono (c_X4_rise hd h t s (h.1 2 4).toNat hV.1 hV.2.1 hV.2.2.1 hI ht (by omega) hs) ?_
  rintro o g ⟨rfl, hf, e3, e4, e33, e34⟩
  have e := fun c (q : c ≠ 33 ∧ c ≠ 34 ∧ c ≠ 3) => (funext fun i => (hf c i (by simp; omega)).1 : g.1 c = h.1 c)
  refine ⟨rfl, fr_sub hf (fun c i q => by simp [frK] at q ⊢; omega), Or.inr ⟨t, s, (h.1 2 4).toNat, e3, e4, ?_, ?_, hs.1, hs.2, ?_, ?_⟩, e34⟩
  · rw [e 2 (by omega)]
    omega
  · rw [e 2 (by omega)]
    exact ht
  · rw [e 19 (by omega), e 20 (by omega), e 21 (by omega)]
    exact e33
  · unfold seaC
    rw [e 19 (by omega), e 20 (by omega), e 21 (by omega), e 22 (by omega), e 23 (by omega)]
    exact e34
theorem hiQ_b {h : zH} {t s n : Nat} {m : Nat} (hV : VV h) (ht : (t : Int) < h.1 2 0) (hn : n = (h.1 2 4).toNat) : -1000 ≤ hiQ h t s n m ∧ hiQ h t s n m ≤ 1098 := by
  obtain ⟨⟨hv1, hv2, -⟩, hVt, hVw, -⟩ := hV
  refine hiF_b ⟨by omega, by omega⟩ n (fun w hw => ?_)
  have := seaF_b (li := h.1 22) (ea := h.1 23) (w := w) (m := (m : Int)) (hVt t ht) (hVw w (by omega)).1
  unfold seaC
  omega
set_option maxHeartbeats 2000000 in
theorem c_X8_open {d : Nat} (hd : 5 ≤ d) (h : zH) (a c e f : Int) (ha : inR a) (hc : inR c) (he : inR e) (hf : inR f) (hV : VV h) (hI : Isea h) :
    zC d k_X8_open [sR 0, sI a, sI c, sI e, sI f] h (fun o g => fr frK h g ∧ Isea g ∧ ∃ r : Int, o = some (sI r) ∧ openA h a c e f r) := by
  obtain ⟨⟨hv1, hv2, hv3, hv4, hv5⟩, hVt, hVw, hVp, hVy, hVh, hVs⟩ := id hV
  have hd1 : d - 1 + 1 ≤ d := by omega
  refine zC_of (by decide +kernel) (Nat.le_of_ble_eq_true rfl) (fun X C E => ?_)
  have loop : okO h a c e f → ∀ g : zH, fr frK h g → Isea g → (∀ m : Nat, m < 1440 → g.1 34 m = hiQ h (c % 10).toNat e.toNat (h.1 2 4).toNat m) → ∀ (k m : Nat), m + k = 1440 → h.1 30 a.toNat ≤ m → zJ X 70 [some (sR 0), some (sI a), some (sI c), some (sI e), some (sI f), some (sI (opC (opP h a c e.toNat) m)), some (sI (opA (opP h a c e.toNat) m)), some (sI (opL (opP h a c e.toNat) m)), some (sI m)] [] g := by
    intro ok g hfg hsg h34 k
    obtain ⟨⟨oa1, oa2⟩, ⟨oc1, oc2, oc3⟩, oe, of⟩ := id ok
    have hh := hVh a.toNat (by omega)
    have k0 : 0 ≤ a := oa1
    have k1 : a < 24 := by omega
    have e31 : g.1 31 = h.1 31 := funext fun i => (hfg 31 i rfl).1
    have e30 : g.1 30 = h.1 30 := funext fun i => (hfg 30 i rfl).1
    have e29 : g.1 29 = h.1 29 := funext fun i => (hfg 29 i rfl).1
    have e28 : g.1 28 = h.1 28 := funext fun i => (hfg 28 i rfl).1
    have e32 : g.1 32 = h.1 32 := funext fun i => (hfg 32 i rfl).1
    have out : ∀ m : Nat, (m ≤ 1440) → (∀ j, m ≤ j → j < 1440 → ¬ opP h a c e.toNat j) → zJ X 131 [some (sR 0), some (sI a), some (sI c), some (sI e), some (sI f), some (sI (opC (opP h a c e.toNat) m)), some (sI (opA (opP h a c e.toNat) m)), some (sI (opL (opP h a c e.toNat) m)), some (sI m)] [] g := by
      intro m hm hno
      obtain ⟨s1, s2, s3⟩ := op_skip (φ := opP h a c e.toNat) (a := m) (1440 - m) (fun j h1 h2 => hno j h1 (by omega))
      rw [show m + (1440 - m) = 1440 by omega] at s1 s2 s3
      refine zrun_sound t_X8_open C E [] 60 _ _ _ _ ?_
      refine And.intro hf (And.intro (fun z => ?_) (fun z => ?_))
      · refine And.intro hf (And.intro (by decide) (And.intro (fun z2 => ?_) (fun z2 => ?_)))
        · exact And.intro hfg (And.intro hsg ⟨_, rfl, Or.inr ⟨ok, by unfold opV; rw [if_neg z, if_neg z2, s3]⟩⟩)
        · exact And.intro hfg (And.intro hsg ⟨_, rfl, Or.inr ⟨ok, by unfold opV; rw [if_neg z, if_pos z2, s2]⟩⟩)
      · exact And.intro hfg (And.intro hsg ⟨_, rfl, Or.inr ⟨ok, by unfold opV; rw [if_pos z, s1]⟩⟩)
    induction k with
    | zero =>
      intro m hm hlo
      refine zrun_sound t_X8_open C E [131] 60 _ _ _ _ ?_
      refine And.intro k0 (And.intro k1 ?_)
      rw [e31]
      refine And.intro (by omega) (And.intro (by omega) (And.intro (fun _ => out m (by omega) (fun j h1 h2 => by omega)) (fun z => absurd (by omega) z)))
    | succ k ih =>
      intro m hm hlo
      have go := c_X3_wayGoes (d := d - 1) (by omega) g a.toNat m (c / 10).toNat 0 (by omega) (by omega) (by omega) (by omega) (by rw [e28]; exact (hVy a.toNat (by omega)).2.2.2) (by rw [e32]; exact hVs (c / 10).toNat (by omega)) (by rw [e29]; omega) (by rw [e30]; omega) (by rw [e31]; omega) (fun j hj => by
        rw [h34 j hj]
        have := hiQ_b (h := h) (t := (c % 10).toNat) (s := e.toNat) (m := j) hV (by omega) rfl
        omega)
      rw [show ((a.toNat : Nat) : Int) = a by omega, show (((c / 10).toNat : Nat) : Int) = c / 10 by omega, e28, e29, e30, e31, e32] at go
      have same : goP (h.1 30 a.toNat) (h.1 31 a.toNat) (takeF (h.1 28 a.toNat) (h.1 32 (c / 10).toNat) ((0 : Nat) : Int)) (g.1 34) (h.1 29 a.toNat) m ↔ opP h a c e.toNat m := goP_c h34
      refine zrun_sound t_X8_open C E [70, 119, 131] 80 _ _ _ _ ?_
      refine And.intro k0 (And.intro k1 ?_)
      rw [e31]
      refine And.intro (by omega) (And.intro (by omega) (And.intro (fun z => ?_) (fun z => ?_)))
      · refine out m (by omega) (fun j h1 h2 q => ?_)
        have := q.1.2
        have z' : h.1 31 a.toNat < (m : Int) := z
        omega
      · refine And.intro ⟨oc1, by omega⟩ (And.intro (by decide) ?_)
        refine zcall_i (d' := d - 1) hd1 go ?_
        rintro o g' ⟨rfl, ⟨rfl, w⟩ | ⟨rfl, w⟩⟩
        · obtain ⟨n1, n2, n3⟩ := op_1 (same.mp w)
          have nx := ih (m + 1) (by omega) (by omega)
          rw [n1, n2, n3] at nx
          have ob := op_b (opP h a c e.toNat) m
          have cut : ∀ v : Int, v = (if opA (opP h a c e.toNat) m = -2 then (m : Int) else opA (opP h a c e.toNat) m) → zJ X 119 [some (sR 0), some (sI a), some (sI c), some (sI e), some (sI f), some (sI (opC (opP h a c e.toNat) m + 1)), some (sI (opA (opP h a c e.toNat) m)), some (sI (opL (opP h a c e.toNat) m)), some (sI m)] [sI v] g := by
            intro v hv
            refine zrun_sound t_X8_open C E [70] 60 _ _ _ _ ?_
            exact zJ_le nx (And.intro rfl (And.intro rfl (And.intro rfl (And.intro rfl (And.intro rfl (And.intro rfl (And.intro (congrArg sI hv.symm) (And.intro rfl (And.intro rfl trivial))))))))) rfl rfl
          refine And.intro (by decide) (And.intro (fun q => absurd q (by decide)) (fun _ => ?_))
          refine And.intro (by omega) (And.intro (by decide) (And.intro (fun q => cut _ (by rw [if_neg q])) (fun q => cut _ (by rw [if_pos q]))))
        · obtain ⟨n1, n2, n3⟩ := op_0 (fun q => w (same.mpr q))
          have nx := ih (m + 1) (by omega) (by omega)
          rw [n1, n2, n3] at nx
          refine And.intro (by decide) (And.intro (fun _ => ?_) (fun q => absurd rfl q))
          exact zJ_le nx (And.intro rfl (And.intro rfl (And.intro rfl (And.intro rfl (And.intro rfl (And.intro rfl (And.intro rfl (And.intro rfl (And.intro rfl trivial))))))))) rfl rfl
  refine zrun_sound t_X8_open C E [70] 60 _ _ _ _ ?_
  refine zcall_i (d' := d - 1) hd1 (c_X8_isWay (by omega) h a ha hv4) ?_
  rintro _ _ ⟨rfl, rfl⟩
  refine And.intro g_in (And.intro (fun c1 => And.intro (fr_rfl _ _) (And.intro hI ⟨_, rfl, Or.inl ⟨fun z => g_f c1 z.1, rfl⟩⟩)) (fun c1 => ?_))
  refine zcall_i (d' := d - 1) hd1 (c_X8_isSortAndTide (by omega) h c hc hv1) ?_
  rintro _ _ ⟨rfl, rfl⟩
  refine And.intro g_in (And.intro (fun c2 => And.intro (fr_rfl _ _) (And.intro hI ⟨_, rfl, Or.inl ⟨fun z => g_f c2 z.2.1, rfl⟩⟩)) (fun c2 => ?_))
  refine zcall_i (d' := d - 1) hd1 (c_X8_isWinds (by omega) h e he (by omega)) ?_
  rintro _ _ ⟨rfl, rfl⟩
  refine And.intro g_in (And.intro (fun c3 => And.intro (fr_rfl _ _) (And.intro hI ⟨_, rfl, Or.inl ⟨fun z => g_f c3 z.2.2.1, rfl⟩⟩)) (fun c3 => ?_))
  refine zcall_i (d' := d - 1) hd1 (c_X8_within h f 0 2 hf (by omega) (by omega)) ?_
  rintro _ _ ⟨rfl, rfl⟩
  refine And.intro g_in (And.intro (fun c4 => ?_) (fun c4 => And.intro (fr_rfl _ _) (And.intro hI ⟨_, rfl, Or.inl ⟨fun z => g_f c4 z.2.2.2, rfl⟩⟩)))
  have q1 := g_t c1
  replace q1 : okY h a := q1
  have q2 := g_t c2
  replace q2 : okT h c := q2
  have q3 := g_t c3
  replace q3 : okW h e := q3
  have q4 := g_t c4
  obtain ⟨s, n, es, es2, en, hs⟩ := winds_n q3
  have hs' : 1 ≤ e.toNat ∧ e.toNat < 2 ^ (h.1 2 4).toNat := by rw [es2, en]; exact hs
  obtain ⟨oc1, oc2, oc3⟩ := id q2
  refine And.intro ⟨oc1, by omega⟩ (And.intro (by decide) ?_)
  refine zcall_i (d' := d - 1) hd1 (c_riseX (by omega) h (c % 10) e (c % 10).toNat e.toNat hV hI (by omega) (by omega) (by omega) hs') ?_
  rintro _ g ⟨rfl, hfg, hsg, h34⟩
  have hh := hVh a.toNat (by have := q1.1; have := q1.2; omega)
  have e30 : g.1 30 a.toNat = ((h.1 30 a.toNat).toNat : Int) := by
    rw [(hfg 30 _ rfl).1]
    omega
  obtain ⟨s1, s2, s3⟩ := op_skip (φ := opP h a c e.toNat) (a := 0) (h.1 30 a.toNat).toNat (fun j _ h2 q => by
    have := q.1.1
    omega)
  have k0 : 0 ≤ a := q1.1
  have k1 : a < 24 := by have := q1.2; omega
  have nx := loop ⟨q1, q2, q3, q4⟩ g hfg hsg h34 (1440 - (h.1 30 a.toNat).toNat) (h.1 30 a.toNat).toNat (by omega) (by omega)
  rw [Nat.zero_add] at s1 s2 s3
  rw [s1, s2, s3] at nx
  refine And.intro k0 (And.intro k1 ?_)
  rw [e30]
  exact zJ_le nx (And.intro rfl (And.intro rfl (And.intro rfl (And.intro rfl (And.intro rfl (And.intro rfl (And.intro rfl (And.intro rfl (And.intro rfl trivial))))))))) rfl rfl
set_option maxHeartbeats 2000000 in
theorem c_X9_open {d : Nat} (hd : 5 ≤ d) (h : zH) (a c e f : Int) (ha : inR a) (hc : inR c) (he : inR e) (hf : inR f) (hI : Inv2 h) :
    zC d k_X9_open [sR 52, sI a, sI c, sI e, sI f] h (fun o g => fr frR h g ∧ ∃ r : Int, o = some (sI r) ∧ openA h a c e f r) := by
  have hV := hI.1.1
  have hE := hI.1.2.1
  obtain ⟨⟨hv1, hv2, hv3, hv4, hv5⟩, hVt, hVw, hVp, hVy, hVh, hVs⟩ := id hV
  obtain ⟨⟨x1, x2, x3, x4, x5, x6⟩, e1, e2, e3, e4, e5, e6⟩ := id hE
  obtain ⟨m1, m2, m3⟩ := id hI.1.2.2.2.2.2.2.2.2.2
  have hW := Imw_of ⟨m1, m2, m3⟩ hI.2
  have hd1 : d - 1 + 1 ≤ d := by omega
  have g1 := c_X9_isWay (d := d - 1) (by omega) h a ha (by omega)
  have g2 := c_X9_isSt (d := d - 1) (by omega) h c hc (by omega)
  have g3 := c_X9_areWinds (d := d - 1) h e he (by omega)
  rw [x4] at g1
  rw [x1] at g2
  rw [x2] at g3
  refine zC_of (by decide +kernel) (Nat.le_of_ble_eq_true rfl) (fun X C E => ?_)
  have loop : okO h a c e f → (1 ≤ e.toNat ∧ e.toNat < 2 ^ (h.1 2 4).toNat) → ∀ g : zH, fr frL h g → Lay g (c / 10).toNat (hiR h (c % 10).toNat e.toNat (h.1 2 4).toNat) (beR h) (h.1 2 8).toNat (h.1 2 10).toNat → ∀ (k m : Nat), m + k = 1440 → zJ X 59 [some (sR 52), some (sI a), some (sI c), some (sI e), some (sI f), some (sI (opC (opP h a c e.toNat) m)), some (sI (opA (opP h a c e.toNat) m)), some (sI (opL (opP h a c e.toNat) m)), some (sI m)] [] g := by
    intro ok hs g hfg hL k
    obtain ⟨⟨oa1, oa2⟩, ⟨oc1, oc2, oc3⟩, oe, of⟩ := id ok
    have hfR : fr frR h g := fr_sub hfg (fun c i q => by simp [frL, frR] at q ⊢; omega)
    have e53 : g.1 53 = h.1 53 := funext fun i => (hfg 53 i rfl).1
    have e68 : g.1 68 = h.1 68 := funext fun i => (hfg 68 i rfl).1
    have e31 : g.1 52 31 = -1 := ((hfg 52 31 rfl).1).trans m1
    have ew := e5 a.toNat (by omega)
    have hh := hVh a.toNat (by omega)
    have hy := (hVy a.toNat (by omega)).2.2.2
    have hsrt := hVs (c / 10).toNat (by omega)
    have es := e6 (c / 10).toNat (by omega)
    induction k with
    | zero =>
      intro m hm
      have : m = 1440 := by omega
      subst this
      refine zrun_sound t_X9_open C E [] 60 _ _ _ _ ?_
      refine And.intro (by decide) (And.intro (by decide) (And.intro (fun _ => ?_) (fun z => absurd (by decide) z)))
      refine And.intro hf (And.intro (fun z => ?_) (fun z => ?_))
      · refine And.intro hf (And.intro (by decide) (And.intro (fun z2 => ?_) (fun z2 => ?_)))
        · exact And.intro hfR ⟨_, rfl, Or.inr ⟨ok, by unfold opV; rw [if_neg z, if_neg z2]⟩⟩
        · exact And.intro hfR ⟨_, rfl, Or.inr ⟨ok, by unfold opV; rw [if_neg z, if_pos z2]⟩⟩
      · exact And.intro hfR ⟨_, rfl, Or.inr ⟨ok, by unfold opV; rw [if_pos z]⟩⟩
    | succ k ih =>
      intro m hm
      have go := c_X9_goes (d := d - 1) (by omega) g a.toNat m 0 (c / 10).toNat (h.1 2 8).toNat (h.1 2 10).toNat _ _ hL (by omega) (by omega) (by omega) (by omega) (by omega) (by rw [e68, ew.2.2.1]; exact hy) (by rw [e53, es]; exact hsrt) (by omega) (by rw [e53, ew.2.2.2.2.1]; omega) (by rw [e53, ew.2.2.2.2.2]; omega)
      rw [show ((a.toNat : Nat) : Int) = a by omega] at go
      have same : goP (fsR g a.toNat) (lsR g a.toNat) (takeF (g.1 68 a.toNat) (g.1 53 (84 + (c / 10).toNat)) ((0 : Nat) : Int)) (hiR h (c % 10).toNat e.toNat (h.1 2 4).toNat) (beR h a.toNat) m ↔ opP h a c e.toNat m := by
        have f1 : fsR g a.toNat = h.1 30 a.toNat := by
          unfold fsR
          rw [e31, if_neg (by omega), e53]
          exact ew.2.2.2.2.1
        have f2 : lsR g a.toNat = h.1 31 a.toNat := by
          unfold lsR
          rw [e31, if_neg (by omega), e53]
          exact ew.2.2.2.2.2
        have f3 : beR h a.toNat = h.1 29 a.toNat := by
          unfold beR
          rw [m2, if_neg (by omega), Int.add_zero]
          exact ew.2.2.2.1
        rw [f1, f2, f3, e68, e53, ew.2.2.1, es]
        exact goP_c (fun j _ => hiR_Q hV hE (by omega) (by omega) hs j)
      refine zrun_sound t_X9_open C E [59, 93] 80 _ _ _ _ ?_
      refine And.intro (by omega) (And.intro (by decide) (And.intro (fun z => absurd z (by omega)) (fun _ => ?_)))
      refine zcall_i (d' := d - 1) hd1 go ?_
      rintro o g' ⟨rfl, ⟨rfl, w⟩ | ⟨rfl, w⟩⟩
      · obtain ⟨n1, n2, n3⟩ := op_1 (same.mp w)
        have nx := ih (m + 1) (by omega)
        rw [n1, n2, n3] at nx
        have ob := op_b (opP h a c e.toNat) m
        have cut : ∀ v : Int, v = (if opA (opP h a c e.toNat) m = -2 then (m : Int) else opA (opP h a c e.toNat) m) → zJ X 93 [some (sR 52), some (sI a), some (sI c), some (sI e), some (sI f), some (sI (opC (opP h a c e.toNat) m + 1)), some (sI (opA (opP h a c e.toNat) m)), some (sI (opL (opP h a c e.toNat) m)), some (sI m)] [sI v] g := by
          intro v hv
          refine zrun_sound t_X9_open C E [59] 60 _ _ _ _ ?_
          exact zJ_le nx (And.intro rfl (And.intro rfl (And.intro rfl (And.intro rfl (And.intro rfl (And.intro rfl (And.intro (congrArg sI hv.symm) (And.intro rfl (And.intro rfl trivial))))))))) rfl rfl
        refine And.intro (by decide) (And.intro (fun q => absurd q (by decide)) (fun _ => ?_))
        refine And.intro (by omega) (And.intro (fun q => cut _ (by rw [if_neg (by omega)])) (fun q => cut _ (by rw [if_pos (by omega)])))
      · obtain ⟨n1, n2, n3⟩ := op_0 (fun q => w (same.mpr q))
        have nx := ih (m + 1) (by omega)
        rw [n1, n2, n3] at nx
        refine And.intro (by decide) (And.intro (fun _ => ?_) (fun q => absurd rfl q))
        exact zJ_le nx (And.intro rfl (And.intro rfl (And.intro rfl (And.intro rfl (And.intro rfl (And.intro rfl (And.intro rfl (And.intro rfl (And.intro rfl trivial))))))))) rfl rfl
  refine zrun_sound t_X9_open C E [59] 60 _ _ _ _ ?_
  refine zcall_i (d' := d - 1) hd1 g1 ?_
  rintro _ _ ⟨rfl, rfl⟩
  refine And.intro g_in (And.intro (fun c1 => And.intro (fr_rfl _ _) ⟨_, rfl, Or.inl ⟨fun z => g_f c1 z.1, rfl⟩⟩) (fun c1 => ?_))
  refine zcall_i (d' := d - 1) hd1 g2 ?_
  rintro _ _ ⟨rfl, rfl⟩
  refine And.intro g_in (And.intro (fun c2 => And.intro (fr_rfl _ _) ⟨_, rfl, Or.inl ⟨fun z => g_f c2 z.2.1, rfl⟩⟩) (fun c2 => ?_))
  refine zcall_i (d' := d - 1) hd1 g3 ?_
  rintro _ _ ⟨rfl, rfl⟩
  refine And.intro g_in (And.intro (fun c3 => And.intro (fr_rfl _ _) ⟨_, rfl, Or.inl ⟨fun z => g_f c3 z.2.2.1, rfl⟩⟩) (fun c3 => ?_))
  refine zcall_i (d' := d - 1) hd1 (c_X9_within h (i2l f) 0 2 f 0 2 (i2l_toInt hf) (by decide) (by decide)) ?_
  rintro _ _ ⟨rfl, rfl⟩
  refine And.intro g_in (And.intro (fun c4 => ?_) (fun c4 => And.intro (fr_rfl _ _) ⟨_, rfl, Or.inl ⟨fun z => g_f c4 z.2.2.2, rfl⟩⟩))
  have q1 := g_t c1
  replace q1 : okY h a := q1
  have q2 := g_t c2
  replace q2 : okT h c := q2
  have q3 := g_t c3
  replace q3 : okW h e := q3
  have q4 := g_t c4
  obtain ⟨s, n, es, es2, en, hs⟩ := winds_n q3
  have hs' : 1 ≤ e.toNat ∧ e.toNat < 2 ^ (h.1 2 4).toNat := by rw [es2, en]; exact hs
  obtain ⟨oc1, oc2, oc3⟩ := id q2
  have hs32 : e.toNat < 32 := Nat.lt_of_lt_of_le hs'.2 (Nat.pow_le_pow_right (by omega) (show (h.1 2 4).toNat ≤ 5 by omega))
  have hlay := c_X9_layOut (d := d - 1) (by omega) h c (c / 10).toNat (c % 10).toNat e.toNat (h.1 2 4).toNat (h.1 2 8).toNat (h.1 2 10).toNat ⟨oc1, by omega⟩ (by omega) (by omega) (VR_of hV hE hW (by omega) (by omega) (by omega) (by omega)) hs32
  rw [show ((e.toNat : Nat) : Int) = e by omega] at hlay
  refine zcall_i (d' := d - 1) hd1 hlay ?_
  rintro _ g ⟨rfl, hfg, hL⟩
  exact zJ_le (loop ⟨q1, q2, q3, q4⟩ hs' g hfg hL 1440 0 (by omega)) (And.intro rfl (And.intro rfl (And.intro rfl (And.intro rfl (And.intro rfl (And.intro rfl (And.intro rfl (And.intro rfl (And.intro rfl trivial))))))))) rfl rfl
theorem pr_open {d : Nat} (hd : 5 ≤ d) {a c e f : Int} (ha : inR a) (hc : inR c) (he : inR e) (hf : inR f) : Pair2 d k_X8_open k_X9_open [sI a, sI c, sI e, sI f] := fun h hI => by
  refine zC_mono (c_X8_open hd h a c e f ha hc he hf hI.1.1 hI.1.2.2.1) ?_
  rintro o g ⟨hf', hs, r, rfl, hr⟩
  have hI2 := Inv_K hI hs hf'
  refine ⟨r, rfl, zC_mono (c_X9_open hd g a c e f ha hc he hf hI2) ?_⟩
  rintro o g' ⟨hf2, r', rfl, hr'⟩
  rw [openA_u hr (openA_k (kpR_K hf') hr')]
  exact ⟨rfl, Inv_R hI2 hf2⟩
