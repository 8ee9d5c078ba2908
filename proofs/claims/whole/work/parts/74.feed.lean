/-! ===== feed ===== -/
abbrev tpB : Nat → Bool := fun c => c == 1 || c == 2 || c == 16 || c == 17 || c == 18 || c == 19 || c == 20 || c == 21 || c == 52 || c == 57 || c == 58 || c == 59 || c == 60 || c == 61 || c == 62
theorem Inv_tp {h g : zH} (hI : Inv2 h) (hV : VV g) (hE : Ieq g) (hs : Isea g) (ht : Itape g) (e : ∀ c, tpB c = false → g.1 c = h.1 c) (eL : ∀ c, tpB c = false → g.2 c = h.2 c) (e2 : g.1 2 8 = h.1 2 8 ∧ g.1 2 10 = h.1 2 10) (e52 : ∀ i, i ≠ 7 → i ≠ 8 → i ≠ 14 → i ≠ 15 → g.1 52 i = h.1 52 i) : Inv2 g := by
  obtain ⟨⟨i1, i2, i3, i4, i5, i6, i7, i8, i9, i10⟩, i11⟩ := hI
  refine ⟨⟨hV, hE, hs, ht, ?_, ?_, ?_, ?_, ?_, ?_⟩, ?_⟩
  · unfold Iplan at *
    rw [e 5 rfl, e 39 rfl, e 74 rfl, e2.2, e52 37 (by omega) (by omega) (by omega) (by omega)]
    exact i5
  · unfold Ichg at *
    rw [e 6 rfl, e 40 rfl, e 41 rfl, e 42 rfl, e 43 rfl, e 54 rfl, e 55 rfl, e 56 rfl, e52 5 (by omega) (by omega) (by omega) (by omega), e52 4 (by omega) (by omega) (by omega) (by omega)]
    exact i6
  · unfold Imark at *
    rw [e 0 rfl, e2.1, e 15 rfl, e 75 rfl, e52 42 (by omega) (by omega) (by omega) (by omega)]
    exact i7
  · unfold Ibod at *
    rw [e 7 rfl, e 44 rfl, e 45 rfl, e 76 rfl, e 77 rfl, e52 44 (by omega) (by omega) (by omega) (by omega), e52 47 (by omega) (by omega) (by omega) (by omega)]
    exact i8
  · intro k hk
    have a := e (8 + k) (by simp [tpB]; omega)
    rw [a, e 7 rfl, e 78 rfl, e 79 rfl, eL 80 rfl, eL (46 + k) (by simp [tpB]; omega)]
    exact i9 k hk
  · unfold Imisc at *
    rw [e52 31 (by omega) (by omega) (by omega) (by omega), e52 32 (by omega) (by omega) (by omega) (by omega), e52 34 (by omega) (by omega) (by omega) (by omega)]
    exact i10
  · rw [e52 33 (by omega) (by omega) (by omega) (by omega)]
    exact i11
def byV (v : Int) (j : Nat) : Int := and32 (shr32 v (8 * j)) 255
def fdC (h : zH) (v : Int) (t : Nat) (g : zH) : Prop := (∀ c, c ≠ 16 → c ≠ 1 → g.1 c = h.1 c) ∧ g.2 = h.2 ∧ (∀ x, x ≠ 1 → g.1 1 x = h.1 1 x) ∧ g.1 1 1 = h.1 1 1 + t ∧ ∀ x : Nat, g.1 16 x = if h.1 1 1 ≤ x ∧ (x : Int) < h.1 1 1 + t then byV v (x - (h.1 1 1).toNat) else h.1 16 x
def fdM (h : zH) (v : Int) (t : Nat) (g : zH) : Prop := (∀ c, c ≠ 57 → c ≠ 52 → g.1 c = h.1 c) ∧ g.2 = h.2 ∧ (∀ x, x ≠ 7 → g.1 52 x = h.1 52 x) ∧ g.1 52 7 = h.1 52 7 + t ∧ ∀ x : Nat, g.1 57 x = if h.1 52 7 ≤ x ∧ (x : Int) < h.1 52 7 + t then byV v (x - (h.1 52 7).toNat) else h.1 57 x
theorem fdC_s {h g : zH} {v : Int} {t : Nat} (m : fdC h v t g) (h0 : 0 ≤ h.1 1 1) : fdC h v (t + 1) (setI (setI g 16 (g.1 1 1).toNat (byV v t)) 1 1 (g.1 1 1 + 1)) := by
  obtain ⟨m1, m2, m3, m4, m5⟩ := m
  refine ⟨fun c h1 h2 => ?_, m2, fun x hx => ?_, ?_, fun x => ?_⟩
  · rw [setI_ne h2, setI_ne h1, m1 c h1 h2]
  · rw [setI_n2 hx, setI_ne (by omega), m3 x hx]
  · rw [setI_eq, m4]
    omega
  · rw [setI_ne (by omega), setI_at, m5 x]
    by_cases e : x = (g.1 1 1).toNat
    · rw [if_pos ⟨rfl, e⟩, if_pos (by omega), show x - (h.1 1 1).toNat = t by omega]
    · rw [if_neg (fun z => e z.2)]
      by_cases q : h.1 1 1 ≤ x ∧ (x : Int) < h.1 1 1 + t
      · rw [if_pos q, if_pos (by omega)]
      · rw [if_neg q, if_neg (by omega)]
theorem fdM_s {h g : zH} {v : Int} {t : Nat} (m : fdM h v t g) (h0 : 0 ≤ h.1 52 7) : fdM h v (t + 1) (setI (setI g 57 (g.1 52 7).toNat (byV v t)) 52 7 (g.1 52 7 + 1)) := by
  obtain ⟨m1, m2, m3, m4, m5⟩ := m
  refine ⟨fun c h1 h2 => ?_, m2, fun x hx => ?_, ?_, fun x => ?_⟩
  · rw [setI_ne h2, setI_ne h1, m1 c h1 h2]
  · rw [setI_n2 hx, setI_ne (by omega), m3 x hx]
  · rw [setI_eq, m4]
    omega
  · rw [setI_ne (by omega), setI_at, m5 x]
    by_cases e : x = (g.1 52 7).toNat
    · rw [if_pos ⟨rfl, e⟩, if_pos (by omega), show x - (h.1 52 7).toNat = t by omega]
    · rw [if_neg (fun z => e z.2)]
      by_cases q : h.1 52 7 ≤ x ∧ (x : Int) < h.1 52 7 + t
      · rw [if_pos q, if_pos (by omega)]
      · rw [if_neg q, if_neg (by omega)]
theorem fd0 {h : zH} {v : Int} : fdC h v 0 h ∧ fdM h v 0 h := ⟨⟨fun _ _ _ => rfl, rfl, fun _ _ => rfl, by omega, fun x => by rw [if_neg (by omega)]⟩, ⟨fun _ _ _ => rfl, rfl, fun _ _ => rfl, by omega, fun x => by rw [if_neg (by omega)]⟩⟩
theorem c_X7_add {d : Nat} (h : zH) (n : Nat) (v : Int) (hn : n ≤ 4) (hv : inR v) (hl : 0 ≤ h.1 1 1 ∧ h.1 1 1 ≤ 120) : zC d k_X7_add [sR 1, sI n, sI v] h (fun o g => (120 < h.1 1 1 + n ∧ g = h ∧ o = some (sI 0)) ∨ (h.1 1 1 + n ≤ 120 ∧ fdC h v n g ∧ o = some (sI 1))) := by
  refine zC_of (by decide +kernel) (Nat.le_of_ble_eq_true rfl) (fun X C E => ?_)
  have loop : h.1 1 1 + n ≤ 120 → ∀ (f t : Nat) (G : zH), t + f = n → fdC h v t G → zJ X 15 [some (sR 1), some (sI n), some (sI v), some (sI t)] [] G := by
    intro hr f
    induction f with
    | zero =>
      intro t G ht hm
      have : t = n := by omega
      subst this
      refine zrun_sound t_X7_add C E [] 60 _ _ _ _ ?_
      refine And.intro (by omega) (And.intro (by omega) (And.intro (fun _ => ?_) (fun z => absurd (by omega) z)))
      exact And.intro (Or.inr rfl) (Or.inr ⟨hr, hm, rfl⟩)
    | succ f ih =>
      intro t G ht hm
      have m4 := hm.2.2.2.1
      have i0 : 0 ≤ G.1 1 1 := by omega
      have i1 : G.1 1 1 < 120 := by omega
      have nx := ih (t + 1) _ (by omega) (fdC_s hm hl.1)
      have eb : and32 (ushr32 v (8 * (t : Int))) 255 = byV v t := byte_shr hv (by omega) (by omega)
      rw [← eb] at nx
      refine zrun_sound t_X7_add C E [15] 60 _ _ _ _ ?_
      refine And.intro (by omega) (And.intro (by omega) (And.intro (fun z => absurd z (by omega)) (fun _ => ?_)))
      refine And.intro i0 (And.intro i1 ?_)
      exact zJ_le nx (And.intro rfl (And.intro rfl (And.intro rfl (And.intro rfl trivial)))) rfl rfl
  refine zrun_sound t_X7_add C E [15] 60 _ _ _ _ ?_
  refine And.intro (by omega) (And.intro (by decide) (And.intro (fun z => ?_) (fun z => ?_)))
  · exact zJ_le (loop z n 0 h (by omega) fd0.1) (And.intro rfl (And.intro rfl (And.intro rfl (And.intro rfl trivial)))) rfl rfl
  · exact And.intro (Or.inl rfl) (Or.inl ⟨by omega, rfl, rfl⟩)
def fdR (len n : Int) (P : Nat → Prop) (same : Prop) (r : Int) : Prop := (¬ (1 ≤ n ∧ n ≤ 4) ∧ same ∧ r = -1) ∨ ((1 ≤ n ∧ n ≤ 4) ∧ 120 < len + n ∧ same ∧ r = -3) ∨ ((1 ≤ n ∧ n ≤ 4) ∧ len + n ≤ 120 ∧ P n.toNat ∧ r = len + n)
theorem c_X8_feed {d : Nat} (hd : 2 ≤ d) (h : zH) (n v : Int) (hn : inR n) (hv : inR v) (hl : 0 ≤ h.1 1 1 ∧ h.1 1 1 ≤ 120) : zC d k_X8_feed [sR 0, sI n, sI v] h (fun o g => ∃ r : Int, o = some (sI r) ∧ fdR (h.1 1 1) n (fun t => fdC h v t g) (g = h) r) := by
  refine zC_of (by decide +kernel) (Nat.le_of_ble_eq_true rfl) (fun X C E => zrun_sound t_X8_feed C E [] 60 _ _ _ _ ?_)
  refine And.intro hn (And.intro (by decide) (And.intro (fun z => ?_) (fun z => ?_)))
  · exact ⟨_, rfl, Or.inl ⟨by omega, rfl, rfl⟩⟩
  · refine And.intro hn (And.intro (by decide) (And.intro (fun z2 => ?_) (fun z2 => ?_)))
    · obtain ⟨u, rfl⟩ : ∃ u : Nat, n = u := ⟨n.toNat, by omega⟩
      refine zcall_i (d' := d - 1) (by omega) (c_X7_add (d := d - 1) h u v (by omega) hv hl) ?_
      rintro o g (⟨y, rfl, rfl⟩ | ⟨y, m, rfl⟩)
      · refine And.intro (by decide) (And.intro (fun _ => ?_) (fun q => absurd rfl q))
        exact ⟨_, rfl, Or.inr (Or.inl ⟨by omega, y, rfl, rfl⟩)⟩
      · refine And.intro (by decide) (And.intro (fun q => absurd q (by decide)) (fun _ => ?_))
        exact ⟨_, rfl, Or.inr (Or.inr ⟨by omega, y, m, m.2.2.2.1⟩)⟩
    · exact ⟨_, rfl, Or.inl ⟨by omega, rfl, rfl⟩⟩
theorem c_X9_feed {d : Nat} (hd : 2 ≤ d) (h : zH) (n v : Int) (hn : inR n) (hl : 0 ≤ h.1 52 7 ∧ h.1 52 7 ≤ 120) : zC d k_X9_feed [sR 52, sI n, sI v] h (fun o g => ∃ r : Int, o = some (sI r) ∧ fdR (h.1 52 7) n (fun t => fdM h v t g) (g = h) r) := by
  refine zC_of (by decide +kernel) (Nat.le_of_ble_eq_true rfl) (fun X C E => ?_)
  have loop : 1 ≤ n → n ≤ 4 → h.1 52 7 + n ≤ 120 → ∀ (f t : Nat) (G : zH), (t : Int) + f = n → fdM h v t G → zJ X 30 [some (sR 52), some (sI n), some (sI v), some (sI t)] [] G := by
    intro n1 n2 hr f
    induction f with
    | zero =>
      intro t G ht hm
      refine zrun_sound t_X9_feed C E [] 60 _ _ _ _ ?_
      refine And.intro (by omega) (And.intro (by omega) (And.intro (fun _ => ?_) (fun z => absurd (by omega) z)))
      refine ⟨_, rfl, Or.inr (Or.inr ⟨⟨n1, n2⟩, hr, ?_, by rw [hm.2.2.2.1]; omega⟩)⟩
      rw [show n.toNat = t by omega]
      exact hm
    | succ f ih =>
      intro t G ht hm
      have m4 := hm.2.2.2.1
      have i0 : 0 ≤ G.1 52 7 := by omega
      have i1 : G.1 52 7 < 120 := by omega
      have nx := ih (t + 1) _ (by omega) (fdM_s hm hl.1)
      refine zrun_sound t_X9_feed C E [30] 60 _ _ _ _ ?_
      refine And.intro (by omega) (And.intro (by omega) (And.intro (fun z => absurd z (by omega)) (fun _ => ?_)))
      refine And.intro i0 (And.intro i1 ?_)
      exact zJ_le nx (And.intro rfl (And.intro rfl (And.intro rfl (And.intro rfl trivial)))) rfl rfl
  refine zrun_sound t_X9_feed C E [30] 60 _ _ _ _ ?_
  refine zcall_i (d' := d - 1) (by omega) (c_X9_within h _ _ _ n 1 4 (i2l_toInt hn) (by decide) (by decide)) ?_
  rintro _ _ ⟨rfl, rfl⟩
  refine And.intro g_in (And.intro (fun c2 => ?_) (fun c2 => ⟨_, rfl, Or.inl ⟨fun z => g_f c2 z, rfl, rfl⟩⟩))
  have q2 := g_t c2
  refine And.intro (by omega) (And.intro (by decide) (And.intro (fun z => ?_) (fun z => ?_)))
  · exact zJ_le (loop q2.1 q2.2 z n.toNat 0 h (by omega) fd0.2) (And.intro rfl (And.intro rfl (And.intro rfl (And.intro rfl trivial)))) rfl rfl
  · exact ⟨_, rfl, Or.inr (Or.inl ⟨q2, by omega, rfl, rfl⟩)⟩
theorem pr_feed {d : Nat} (hd : 2 ≤ d) {n v : Int} (hn : inR n) (hv : inR v) : Pair2 d k_X8_feed k_X9_feed [sI n, sI v] := fun h hI => by
  obtain ⟨t1, t2, t3⟩ := id hI.1.2.2.2.1
  refine zC_mono (c_X8_feed hd h n v hn hv t2) ?_
  rintro o g ⟨r, rfl, ⟨q, rfl, rfl⟩ | ⟨q, q2, rfl, rfl⟩ | ⟨q, q2, m, rfl⟩⟩
  · refine ⟨_, rfl, zC_mono (c_X9_feed hd g n v hn (by omega)) ?_⟩
    rintro o g' ⟨r, rfl, ⟨y, rfl, rfl⟩ | ⟨y, -⟩ | ⟨y, -⟩⟩
    · exact ⟨rfl, hI⟩
    · exact absurd y q
    · exact absurd y q
  · refine ⟨_, rfl, zC_mono (c_X9_feed hd g n v hn (by omega)) ?_⟩
    rintro o g' ⟨r, rfl, ⟨y, -⟩ | ⟨y, y2, rfl, rfl⟩ | ⟨y, y2, -⟩⟩
    · exact absurd q y
    · exact ⟨rfl, hI⟩
    · omega
  · obtain ⟨m1, m2, m3, m4, m5⟩ := m
    have g7 : g.1 52 7 = h.1 1 1 := by rw [m1 52 (by omega) (by omega)]; exact t1
    refine ⟨_, rfl, zC_mono (c_X9_feed hd g n v hn (by omega)) ?_⟩
    rw [g7]
    rintro o g' ⟨r, rfl, ⟨y, -⟩ | ⟨y, y2, -⟩ | ⟨y, y2, m', rfl⟩⟩
    · exact absurd q y
    · omega
    · obtain ⟨n1, n2, n3, n4, n5⟩ := m'
      rw [g7] at n4
      have ec : ∀ c, c ≠ 16 → c ≠ 1 → c ≠ 57 → c ≠ 52 → g'.1 c = h.1 c := fun c a b c1 c2 => (n1 c c1 c2).trans (m1 c a b)
      have e52 : ∀ x, x ≠ 7 → g'.1 52 x = h.1 52 x := fun x hx => (n3 x hx).trans (by rw [m1 52 (by omega) (by omega)])
      refine ⟨rfl, Inv_tp hI ?_ ?_ ?_ ?_ (fun c q => ec c (by simp [tpB] at q; omega) (by simp [tpB] at q; omega) (by simp [tpB] at q; omega) (by simp [tpB] at q; omega)) (fun c _ => by rw [n2.trans m2]) ⟨by rw [ec 2 (by omega) (by omega) (by omega) (by omega)], by rw [ec 2 (by omega) (by omega) (by omega) (by omega)]⟩ (fun i a _ _ _ => e52 i a)⟩
      · have hV := hI.1.1
        unfold VV Vn Vt Vw Vp Vy Vh Vs at *
        rw [ec 2 (by omega) (by omega) (by omega) (by omega), ec 19 (by omega) (by omega) (by omega) (by omega), ec 20 (by omega) (by omega) (by omega) (by omega), ec 21 (by omega) (by omega) (by omega) (by omega), ec 22 (by omega) (by omega) (by omega) (by omega), ec 23 (by omega) (by omega) (by omega) (by omega), ec 24 (by omega) (by omega) (by omega) (by omega), ec 25 (by omega) (by omega) (by omega) (by omega), ec 26 (by omega) (by omega) (by omega) (by omega), ec 27 (by omega) (by omega) (by omega) (by omega), ec 28 (by omega) (by omega) (by omega) (by omega), ec 29 (by omega) (by omega) (by omega) (by omega), ec 30 (by omega) (by omega) (by omega) (by omega), ec 31 (by omega) (by omega) (by omega) (by omega), ec 32 (by omega) (by omega) (by omega) (by omega)]
        exact hV
      · have hE := hI.1.2.1
        unfold Ieq at *
        rw [ec 2 (by omega) (by omega) (by omega) (by omega), ec 19 (by omega) (by omega) (by omega) (by omega), ec 20 (by omega) (by omega) (by omega) (by omega), ec 21 (by omega) (by omega) (by omega) (by omega), ec 22 (by omega) (by omega) (by omega) (by omega), ec 23 (by omega) (by omega) (by omega) (by omega), ec 24 (by omega) (by omega) (by omega) (by omega), ec 25 (by omega) (by omega) (by omega) (by omega), ec 26 (by omega) (by omega) (by omega) (by omega), ec 27 (by omega) (by omega) (by omega) (by omega), ec 28 (by omega) (by omega) (by omega) (by omega), ec 29 (by omega) (by omega) (by omega) (by omega), ec 30 (by omega) (by omega) (by omega) (by omega), ec 31 (by omega) (by omega) (by omega) (by omega), ec 32 (by omega) (by omega) (by omega) (by omega), ec 53 (by omega) (by omega) (by omega) (by omega), ec 58 (by omega) (by omega) (by omega) (by omega), ec 59 (by omega) (by omega) (by omega) (by omega), ec 60 (by omega) (by omega) (by omega) (by omega), ec 63 (by omega) (by omega) (by omega) (by omega), ec 64 (by omega) (by omega) (by omega) (by omega), ec 65 (by omega) (by omega) (by omega) (by omega), ec 66 (by omega) (by omega) (by omega) (by omega), ec 67 (by omega) (by omega) (by omega) (by omega), ec 68 (by omega) (by omega) (by omega) (by omega), e52 8 (by omega), e52 16 (by omega), e52 20 (by omega), e52 21 (by omega), e52 25 (by omega), e52 26 (by omega)]
        exact hE
      · exact Isea_c hI.1.2.2.1 (fun c a b => ec c (by omega) (by omega) (by omega) (by omega)) (ec 2 (by omega) (by omega) (by omega) (by omega)) ⟨congrFun (ec 3 (by omega) (by omega) (by omega) (by omega)) 3, congrFun (ec 3 (by omega) (by omega) (by omega) (by omega)) 4⟩ (ec 33 (by omega) (by omega) (by omega) (by omega)) (ec 34 (by omega) (by omega) (by omega) (by omega))
      · have f11 : g'.1 1 1 = h.1 1 1 + n := by rw [n1 1 (by omega) (by omega), m4]; omega
        refine ⟨by rw [n4, f11]; omega, by omega, fun i hi => ?_⟩
        rw [n1 16 (by omega) (by omega), n5 i, m5 i, g7, m1 57 (by omega) (by omega)]
        by_cases z : h.1 1 1 ≤ i ∧ (i : Int) < h.1 1 1 + (n.toNat : Nat)
        · rw [if_pos z, if_pos z]
          refine ⟨rfl, ?_⟩
          unfold byV
          rw [and32_255]
          omega
        · rw [if_neg z, if_neg z]
          exact t3 i hi
