/-! ===== old ===== -/
/-- from mark i one can be at mark i + 1, in the one wind w -/
def mkB (h : zH) (c : Int) (w i : Nat) : Prop := ∃ y : Nat, y < 4 ∧ RdS (SB h c (2 ^ w)) (h.1 15 i / 10000).toNat (h.1 15 i % 10000).toNat (h.1 15 (i + 1) / 10000).toNat (h.1 15 (i + 1) % 10000).toNat y
def mkA (h : zH) (c : Int) (w : Nat) : Prop := ∀ i : Nat, i + 1 < (h.1 0 9).toNat → mkB h c w i
def oldA (h : zH) (a r : Int) : Prop := (¬ okT h a ∧ r = -1) ∨ (okT h a ∧ h.1 0 9 < 2 ∧ r = -5) ∨ (okT h a ∧ ¬ h.1 0 9 < 2 ∧ r = bitsF (mkA h a) (h.1 2 4).toNat)
theorem oldA_u {h : zH} {a r r' : Int} (x : oldA h a r) (y : oldA h a r') : r = r' := by
  rcases x with ⟨x1, x2⟩ | ⟨x1, x2, x3⟩ | ⟨x1, x2, x3⟩ <;> rcases y with ⟨y1, y2⟩ | ⟨y1, y2, y3⟩ | ⟨y1, y2, y3⟩ <;> first | exact absurd x1 y1 | exact absurd y1 x1 | exact absurd x2 y2 | exact absurd y2 x2 | rw [x3, y3] | rw [x2, y2]
theorem oldA_k {h g : zH} (k : kpR h g) {a r : Int} (x : oldA g a r) : oldA h a r := by
  have e : mkA g a = mkA h a := funext fun w => by
    unfold mkA mkB SB
    rw [kpR_SZ k, k.1 15 rfl, k.1 0 rfl]
  unfold oldA at *
  rw [e, (kpR_ok k).2.2.1, k.1 0 rfl, k.1 2 rfl] at x
  exact x
theorem shl1_w {w : Nat} (hw : w < 5) : shl32 1 (w : Int) = ((2 ^ w : Nat) : Int) := shl32_tab w (by omega)
theorem pw_ok {h : zH} {w : Nat} (hw : w < (h.1 2 4).toNat) : 1 ≤ 2 ^ w ∧ 2 ^ w < 2 ^ (h.1 2 4).toNat := ⟨Nat.pos_of_ne_zero (by have := Nat.pow_pos (n := w) (show 0 < 2 by decide); omega), Nat.pow_lt_pow_right (by omega) hw⟩
/-- marks, as both sides keep them -/
def mkOK (h : zH) : Prop := (0 ≤ h.1 0 9 ∧ h.1 0 9 ≤ 6) ∧ ∀ i : Nat, (i : Int) < h.1 0 9 → okF h (h.1 15 i)
theorem mkOK_of {h : zH} (hI : Imark h) : mkOK h := ⟨hI.2.1, fun i hi => (hI.2.2.1 i hi).2⟩
theorem and_goal {x : Int64} {p : Nat} (hp : p < 12) : ¬ (x &&& shl64 15 (4 * (p : Int))) = 0 ↔ ∃ y : Nat, y < 4 ∧ lb x (4 * p + y) = true := by
  rw [lb_ne0]
  constructor
  · rintro ⟨j, hj, h2⟩
    rw [lb_and, lb_place (by omega) (by omega) j hj, Bool.and_eq_true, Bool.and_eq_true] at h2
    obtain ⟨h3, h4, h5⟩ := h2
    have h4' := of_decide_eq_true h4
    have h5' := of_decide_eq_true h5
    refine ⟨j - 4 * p, by omega, ?_⟩
    rw [show 4 * p + (j - 4 * p) = j by omega]
    exact h3
  · rintro ⟨y, hy, h2⟩
    refine ⟨4 * p + y, by omega, ?_⟩
    rw [lb_and, lb_place (by omega) (by omega) _ (by omega), Bool.and_eq_true, Bool.and_eq_true]
    exact ⟨h2, decide_eq_true (by omega), decide_eq_true (by omega)⟩
set_option maxHeartbeats 1000000 in
theorem c_X5_isThere {d : Nat} (hd : 5 ≤ d) (h g : zH) (a b c : Int) (s : Nat) (F M Y W : Int) (hV : VV h) (hq : QZ h g c s F M Y W) (ha : okF h a) (hb : okF h b) :
    zC d k_X5_isThere [sR 4, sI a, sI b] g (fun o g2 => fr frS g g2 ∧ isB o (∃ y : Nat, y < 4 ∧ RdS (SZ h c s F M Y W) (a / 10000).toNat (a % 10000).toNat (b / 10000).toNat (b % 10000).toNat y)) := by
  obtain ⟨hv1, hv2, hv3, hv4, hv5⟩ := id hV.1
  obtain ⟨a1, a2, a3⟩ := ha
  obtain ⟨b1, b2, b3⟩ := hb
  have hsp := c_X5_spread_35 (d := d - 1) (by omega) g (c / 10).toNat (h.1 2 8).toNat (h.1 2 10).toNat a (a / 10000).toNat (a % 10000).toNat (b % 10000).toNat 0 hq.1 ⟨a1, by omega⟩ (by omega) (by omega) (by omega) (by omega) (by omega) (fun j _ q => by rw [lb_0] at q; cases q)
  rw [show (((b % 10000).toNat : Nat) : Int) = b % 10000 by omega] at hsp
  refine zC_of (by decide +kernel) (Nat.le_of_ble_eq_true rfl) (fun X C E => zrun_sound t_X5_isThere C E [] 60 _ _ _ _ ?_)
  refine And.intro ⟨b1, by omega⟩ (And.intro (by decide) ?_)
  refine zcall_i (d' := d - 1) (by omega) hsp ?_
  rintro o g2 ⟨hf, ho⟩
  rcases ho with ⟨rfl, h1, h2⟩ | ⟨m, rfl, h1, ⟨p, y, h2, h3⟩, -⟩
  · have k0 : 0 ≤ b % 10000 := by omega
    have k1 : b % 10000 < 1440 := by omega
    refine And.intro k0 (And.intro k1 ?_)
    refine And.intro ⟨b1, by omega⟩ (And.intro (by decide) ?_)
    have hg := @and_goal (g2.2 35 (b % 10000).toNat) (b / 10000).toNat (by omega)
    rw [show (((b / 10000).toNat : Nat) : Int) = b / 10000 by omega] at hg
    have key : (∃ y : Nat, y < 4 ∧ lb (g2.2 35 (b % 10000).toNat) (4 * (b / 10000).toNat + y) = true) ↔ ∃ y : Nat, y < 4 ∧ RdS (SZ h c s F M Y W) (a / 10000).toNat (a % 10000).toNat (b / 10000).toNat (b % 10000).toNat y := by
      constructor
      · rintro ⟨y, hy, z⟩
        exact ⟨y, hy, (RdS_c (QZ_same hq) (SC_ok hq.1) (by omega)).mp ((h2 _ _ y (by omega) (by omega) hy).mp z)⟩
      · rintro ⟨y, hy, z⟩
        exact ⟨y, hy, (h2 _ _ y (by omega) (by omega) hy).mpr ((RdS_c (QZ_same hq) (SC_ok hq.1) (by omega)).mpr z)⟩
    refine And.intro (fun z => ?_) (And.intro (fun z => ?_) (fun z => ?_))
    · have hne : ¬ (g2.2 35 (b % 10000).toNat &&& shl64 15 (4 * (b / 10000))) = 0 := fun q => by rw [q] at z; exact absurd z (by decide)
      refine And.intro (by decide) (And.intro (fun q => absurd q (by decide)) (fun _ => ?_))
      exact And.intro (Or.inr rfl) (And.intro hf (Or.inl ⟨rfl, key.mp (hg.mp hne)⟩))
    · refine And.intro (by decide) (And.intro (fun _ => ?_) (fun q => absurd rfl q))
      exact And.intro (Or.inl rfl) (And.intro hf (Or.inr ⟨rfl, fun q => absurd z (hg.mpr (key.mpr q))⟩))
    · have hne : ¬ (g2.2 35 (b % 10000).toNat &&& shl64 15 (4 * (b / 10000))) = 0 := fun q => by rw [q] at z; exact absurd z (by decide)
      refine And.intro (by decide) (And.intro (fun q => absurd q (by decide)) (fun _ => ?_))
      exact And.intro (Or.inr rfl) (And.intro hf (Or.inl ⟨rfl, key.mp (hg.mp hne)⟩))
  · rw [lb_0] at h3
    cases h3
set_option maxHeartbeats 1000000 in
theorem c_X8_marksCanHaveBeen {d : Nat} (hd : 6 ≤ d) (h g : zH) (c : Int) (w : Nat) (hV : VV h) (hm : mkOK h) (hf : fr frK h g) (hq : QZ h g c (2 ^ w) (-1) (-1) 0 (-1)) (hs : Isea g) :
    zC d k_X8_marksCanHaveBeen [sR 0] g (fun o g2 => fr frK h g2 ∧ Isea g2 ∧ isB o (mkA h c w)) := by
  obtain ⟨n1, hm2⟩ := hm
  refine zC_of (by decide +kernel) (Nat.le_of_ble_eq_true rfl) (fun X C E => ?_)
  have loop : ∀ (f i : Nat) (H : zH), i + f = (h.1 0 9).toNat → (∀ j : Nat, j < i → j + 1 < (h.1 0 9).toNat → mkB h c w j) → fr frK h H → Isea H → QZ h H c (2 ^ w) (-1) (-1) 0 (-1) → zJ X 2 [some (sR 0), some (sI ((i : Int) + 1))] [] H := by
    intro f
    induction f with
    | zero =>
      intro i H hi hall hfH hsH hqH
      have e9 : H.1 0 9 = h.1 0 9 := (hfH 0 9 rfl).1
      refine zrun_sound t_X8_marksCanHaveBeen C E [] 60 _ _ _ _ ?_
      refine And.intro (by omega) (And.intro (by omega) (And.intro (fun _ => ?_) (fun z => absurd (by omega) z)))
      exact And.intro (Or.inr rfl) (And.intro hfH (And.intro hsH (Or.inl ⟨rfl, fun j hj => hall j (by omega) hj⟩)))
    | succ f ih =>
      intro i H hi hall hfH hsH hqH
      have e9 : H.1 0 9 = h.1 0 9 := (hfH 0 9 rfl).1
      have e15 : H.1 15 = h.1 15 := funext fun j => (hfH 15 j rfl).1
      by_cases hlast : (i : Int) + 1 = h.1 0 9
      · refine zrun_sound t_X8_marksCanHaveBeen C E [] 60 _ _ _ _ ?_
        refine And.intro (by omega) (And.intro (by omega) (And.intro (fun _ => ?_) (fun z => absurd (by omega) z)))
        exact And.intro (Or.inr rfl) (And.intro hfH (And.intro hsH (Or.inl ⟨rfl, fun j hj => hall j (by omega) hj⟩)))
      · have t0 : ((i : Int) + 1 - 1).toNat = i := by omega
        have t1 : ((i : Int) + 1).toNat = i + 1 := by omega
        refine zrun_sound t_X8_marksCanHaveBeen C E [2] 60 _ _ _ _ ?_
        refine And.intro (by omega) (And.intro (by omega) (And.intro (fun z => absurd z (by omega)) (fun _ => ?_)))
        refine And.intro (by omega) (And.intro (by omega) ?_)
        refine And.intro (by omega) (And.intro (by omega) ?_)
        rw [t0, t1, e15]
        refine zcall_i (d' := d - 1) (by omega) (c_X5_isThere (by omega) h H _ _ c (2 ^ w) (-1) (-1) 0 (-1) hV hqH (hm2 i (by omega)) (hm2 (i + 1) (by omega))) ?_
        rintro o g2 ⟨hf2, ⟨rfl, z⟩ | ⟨rfl, z⟩⟩
        · refine And.intro (by decide) (And.intro (fun _ => ?_) (fun q => absurd q (by decide)))
          refine zJ_le (ih (i + 1) g2 (by omega) (fun j hj hj2 => ?_) (fr_trans hfH (frK_S hf2)) (Isea_S hsH hf2) (QZ_S hqH hf2)) (And.intro rfl (And.intro rfl trivial)) rfl rfl
          by_cases e : j = i
          · subst e
            exact z
          · exact hall j (by omega) hj2
        · refine And.intro (by decide) (And.intro (fun q => absurd rfl q) (fun _ => ?_))
          exact And.intro (Or.inl rfl) (And.intro (fr_trans hfH (frK_S hf2)) (And.intro (Isea_S hsH hf2) (Or.inr ⟨rfl, fun q => z (q i (by omega))⟩)))
  refine zrun_sound t_X8_marksCanHaveBeen C E [2] 60 _ _ _ _ ?_
  exact loop (h.1 0 9).toNat 0 g (by omega) (fun j hj => absurd hj (by omega)) hf hs hq
set_option maxHeartbeats 1000000 in
theorem c_X8_old {d : Nat} (hd : 8 ≤ d) (h : zH) (a : Int) (ha : inR a) (hV : VV h) (hI : Isea h) (hm : mkOK h) :
    zC d k_X8_old [sR 0, sI a] h (fun o g => fr frK h g ∧ Isea g ∧ ∃ r : Int, o = some (sI r) ∧ oldA h a r) := by
  obtain ⟨hv1, hv2, hv3, hv4, hv5⟩ := id hV.1
  have hm1 := hm.1
  have hd1 : d - 1 + 1 ≤ d := by omega
  refine zC_of (by decide +kernel) (Nat.le_of_ble_eq_true rfl) (fun X C E => ?_)
  have loop : okT h a → ¬ h.1 0 9 < 2 → ∀ (f w : Nat) (H : zH), w + f = (h.1 2 4).toNat → fr frK h H → Isea H → zJ X 25 [some (sR 0), some (sI a), some (sI (bitsF (mkA h a) w)), some (sI w)] [] H := by
    intro oa o2 f
    induction f with
    | zero =>
      intro w H hw hf hs
      have e4 : H.1 2 4 = h.1 2 4 := (hf 2 4 rfl).1
      refine zrun_sound t_X8_old C E [] 60 _ _ _ _ ?_
      refine And.intro (by omega) (And.intro (by omega) (And.intro (fun _ => ?_) (fun z => absurd (by omega) z)))
      exact And.intro hf (And.intro hs ⟨_, rfl, Or.inr (Or.inr ⟨oa, o2, by rw [show w = (h.1 2 4).toNat by omega]⟩)⟩)
    | succ f ih =>
      intro w H hw hf hs
      have kk := kpR_K hf
      have e4 : H.1 2 4 = h.1 2 4 := (hf 2 4 rfl).1
      have hV' := kpR_V kk hV
      have oa' : okT H a := by rw [(kpR_ok kk).2.2.1]; exact oa
      have hm' : mkOK H := by
        refine ⟨by rw [(hf 0 9 rfl).1]; exact hm1, fun i hi => ?_⟩
        rw [(hf 0 9 rfl).1] at hi
        rw [(kpR_ok kk).1, (hf 15 i rfl).1]
        exact hm.2 i hi
      have eA : mkA H a w = mkA h a w := by
        unfold mkA mkB SB
        rw [kpR_SZ kk, kk.1 15 rfl, kk.1 0 rfl]
      have hpw := pw_ok (h := H) (w := w) (by rw [e4]; omega)
      refine zrun_sound t_X8_old C E [25] 60 _ _ _ _ ?_
      refine And.intro (by omega) (And.intro (by omega) (And.intro (fun z => absurd z (by omega)) (fun _ => ?_)))
      refine zcall_i (d' := d - 1) hd1 (c_prepX (by omega) H a _ (2 ^ w) hV' hs oa' (shl1_w (by omega)) hpw) ?_
      rintro _ g ⟨rfl, hf1, hs1, hq⟩
      refine zcall_i (d' := d - 1) hd1 (c_X8_marksCanHaveBeen (by omega) H g a w hV' hm' hf1 hq hs1) ?_
      rintro o g2 ⟨hf2, hs2, ho⟩
      rw [eA] at ho
      have nx := ih (w + 1) g2 (by omega) (fr_trans hf hf2) hs2
      rcases ho with ⟨rfl, z⟩ | ⟨rfl, z⟩
      · refine And.intro (by decide) (And.intro (fun q => absurd q (by decide)) (fun _ => ?_))
        rw [bitsF_1 z] at nx
        exact zJ_le nx (And.intro rfl (And.intro rfl (And.intro rfl (And.intro rfl trivial)))) rfl rfl
      · refine And.intro (by decide) (And.intro (fun _ => ?_) (fun q => absurd rfl q))
        rw [bitsF_0 z] at nx
        exact zJ_le nx (And.intro rfl (And.intro rfl (And.intro rfl (And.intro rfl trivial)))) rfl rfl
  refine zrun_sound t_X8_old C E [25] 60 _ _ _ _ ?_
  refine zcall_i (d' := d - 1) hd1 (c_X8_isSortAndTide (by omega) h a ha hv1) ?_
  rintro _ _ ⟨rfl, rfl⟩
  refine And.intro g_in (And.intro (fun c1 => ?_) (fun c1 => And.intro (fr_rfl _ _) (And.intro hI ⟨_, rfl, Or.inl ⟨fun z => g_f c1 z, rfl⟩⟩)))
  have q1 := g_t c1
  replace q1 : okT h a := q1
  refine And.intro (by omega) (And.intro (by omega) (And.intro (fun c2 => ?_) (fun c2 => ?_)))
  · exact zJ_le (loop q1 (Int.not_lt.mpr c2) (h.1 2 4).toNat 0 h (by omega) (fr_rfl _ _) hI) (And.intro rfl (And.intro rfl (And.intro rfl (And.intro rfl trivial)))) rfl rfl
  · exact And.intro (fr_rfl _ _) (And.intro hI ⟨_, rfl, Or.inr (Or.inl ⟨q1, Int.not_le.mp c2, rfl⟩)⟩)
theorem c_reachK {d : Nat} (hd : 4 ≤ d) (h H : zH) (a c s' : Int) (s : Nat) (k : kpR h H) (hI : Inv2 h) (n1 : H.1 52 31 = -1) (n2 : H.1 52 32 = -1) (n3 : H.1 52 34 = -1) (n4 : 0 ≤ H.1 52 33 ∧ H.1 52 33 ≤ 200) (ha : okF h a) (hc : okT h c) (es : s' = s) (hs : 1 ≤ s ∧ s < 2 ^ (h.1 2 4).toNat) :
    zC d k_X9_reach [sR 52, sI a, sI c, sI s'] H (fun o g => o = none ∧ fr frR H g ∧ tellsR g (h.1 2 8).toNat (RdS (SB h c s) (a / 10000).toNat (a % 10000).toNat)) := by
  obtain ⟨k1, k2, k3, k4⟩ := kpR_ok k
  have sm := SM_K k hI.1.1 hI.1.2.1 hc hs n1 n2 rfl n3
  rw [SZ_Y (Y' := 0)] at sm
  have hr := c_reachX hd H a c s' s (SB h c s) (kpR_V k hI.1.1) (kpR_E k hI.1.2.1) (Imw_of ⟨n1, n2, n3⟩ n4) (by rw [k1]; exact ha) (by rw [k3]; exact hc) es (by rw [k4]; exact hs) sm
  rw [k4] at hr
  refine zC_mono hr ?_
  rintro o g ⟨rfl, hf, -, ht⟩
  exact ⟨rfl, hf, ht⟩
set_option maxHeartbeats 2000000 in
theorem c_X9_old {d : Nat} (hd : 8 ≤ d) (h : zH) (a : Int) (ha : inR a) (hI : Inv2 h) :
    zC d k_X9_old [sR 52, sI a] h (fun o g => Inv2 g ∧ ∃ r : Int, o = some (sI r) ∧ oldA h a r) := by
  have hV := hI.1.1
  have hE := hI.1.2.1
  obtain ⟨hv1, hv2, hv3, hv4, hv5⟩ := id hV.1
  obtain ⟨x1, x2, x3, x4, x5, x6⟩ := id hE.1
  obtain ⟨m1, m2, m3⟩ := id hI.1.2.2.2.2.2.2.2.2.2
  have m4 := hI.2
  obtain ⟨p1, p2, p3, p4⟩ := id hI.1.2.2.2.2.2.2.1
  have hd1 : d - 1 + 1 ≤ d := by omega
  have g1 := c_X9_isSt (d := d - 1) (by omega) h a ha (by omega)
  rw [x1] at g1
  refine zC_of (by decide +kernel) (Nat.le_of_ble_eq_true rfl) (fun X C E => ?_)
  have loop : okT h a → ¬ h.1 0 9 < 2 → ∀ (f w : Nat) (H : zH), w + f = (h.1 2 4).toNat → kpR h H → Isea H → H.1 52 31 = -1 → H.1 52 32 = -1 → H.1 52 34 = -1 → (0 ≤ H.1 52 33 ∧ H.1 52 33 ≤ 200) → zJ X 25 [some (sR 52), some (sI a), some (sI (bitsF (mkA h a) w)), some (sI w)] [] H := by
    intro oa o2 f
    induction f with
    | zero =>
      intro w H hw k hs n1 n2 n3 n4
      have e16 : H.1 52 16 = h.1 2 4 := (k.2.2 16 (by omega) (by omega) (by omega) (by omega) (by omega)).trans x2
      refine zrun_sound t_X9_old C E [] 60 _ _ _ _ ?_
      refine And.intro (by omega) (And.intro (by omega) (And.intro (fun _ => ?_) (fun z => absurd (by omega) z)))
      exact And.intro (kpR_I k hI hs n1 n2 n3 n4) ⟨_, rfl, Or.inr (Or.inr ⟨oa, o2, by rw [show w = (h.1 2 4).toNat by omega]⟩)⟩
    | succ f ih =>
      intro w H0 hw k0 hs0 n10 n20 n30 n40
      have e16 : H0.1 52 16 = h.1 2 4 := (k0.2.2 16 (by omega) (by omega) (by omega) (by omega) (by omega)).trans x2
      have bi := bitsF_in (mkA h a) w
      have exit1 : ∀ (al i : Int) (H : zH), ((al = 1 ∧ mkA h a w) ∨ (al = 0 ∧ ¬ mkA h a w)) → kpR h H → Isea H → H.1 52 31 = -1 → H.1 52 32 = -1 → H.1 52 34 = -1 → (0 ≤ H.1 52 33 ∧ H.1 52 33 ≤ 200) → zJ X 104 [some (sR 52), some (sI a), some (sI (bitsF (mkA h a) w)), some (sI w), some (sI al), some (sI i)] [] H := by
        intro al i H hal k hs n1 n2 n3 n4
        have nx := ih (w + 1) H (by omega) k hs n1 n2 n3 n4
        rcases hal with ⟨rfl, z⟩ | ⟨rfl, z⟩
        · refine zrun_sound t_X9_old C E [25] 60 _ _ _ _ ?_
          refine And.intro (by decide) (And.intro (fun q => absurd q (by decide)) (fun _ => ?_))
          rw [bitsF_1 z] at nx
          exact zJ_le nx (And.intro rfl (And.intro rfl (And.intro rfl (And.intro rfl trivial)))) rfl rfl
        · refine zrun_sound t_X9_old C E [25] 60 _ _ _ _ ?_
          refine And.intro (by decide) (And.intro (fun _ => ?_) (fun q => absurd rfl q))
          rw [bitsF_0 z] at nx
          exact zJ_le nx (And.intro rfl (And.intro rfl (And.intro (congrArg sI (or32_0 bi).symm) (And.intro rfl trivial)))) rfl rfl
      have inner : ∀ (f2 i : Nat) (H : zH), i + f2 = (h.1 0 9).toNat → (∀ j : Nat, j < i → j + 1 < (h.1 0 9).toNat → mkB h a w j) → kpR h H → Isea H → H.1 52 31 = -1 → H.1 52 32 = -1 → H.1 52 34 = -1 → (0 ≤ H.1 52 33 ∧ H.1 52 33 ≤ 200) → zJ X 39 [some (sR 52), some (sI a), some (sI (bitsF (mkA h a) w)), some (sI w), some (sI 1), some (sI ((i : Int) + 1))] [] H := by
        intro f2
        induction f2 with
        | zero =>
          intro i H hi hall k hs n1 n2 n3 n4
          have e42 : H.1 52 42 = h.1 0 9 := (k.2.2 42 (by omega) (by omega) (by omega) (by omega) (by omega)).trans p1
          refine zrun_sound t_X9_old C E [104] 60 _ _ _ _ ?_
          refine And.intro (by omega) (And.intro (by omega) (And.intro (fun _ => ?_) (fun z => absurd (by omega) z)))
          exact exit1 1 _ H (Or.inl ⟨rfl, fun j hj => hall j (by omega) hj⟩) k hs n1 n2 n3 n4
        | succ f2 ih2 =>
          intro i H hi hall k hs n1 n2 n3 n4
          have e42 : H.1 52 42 = h.1 0 9 := (k.2.2 42 (by omega) (by omega) (by omega) (by omega) (by omega)).trans p1
          by_cases hlast : (i : Int) + 1 = h.1 0 9
          · refine zrun_sound t_X9_old C E [104] 60 _ _ _ _ ?_
            refine And.intro (by omega) (And.intro (by omega) (And.intro (fun _ => ?_) (fun z => absurd (by omega) z)))
            exact exit1 1 _ H (Or.inl ⟨rfl, fun j hj => hall j (by omega) hj⟩) k hs n1 n2 n3 n4
          · have t0 : ((i : Int) + 1 - 1).toNat = i := by omega
            have t1 : ((i : Int) + 1).toNat = i + 1 := by omega
            have e75 : ∀ j : Nat, (j : Int) < h.1 0 9 → H.1 75 j = h.1 15 j := fun j hj => by
              rw [k.1 75 rfl]
              exact (p3 j hj).1
            have f0 := (p3 i (by omega)).2
            have f1 := (p3 (i + 1) (by omega)).2
            have exit0 : ∀ (i' : Int) (H : zH), ¬ mkA h a w → kpR h H → Isea H → H.1 52 31 = -1 → H.1 52 32 = -1 → H.1 52 34 = -1 → (0 ≤ H.1 52 33 ∧ H.1 52 33 ≤ 200) → inR i' → zJ X 39 [some (sR 52), some (sI a), some (sI (bitsF (mkA h a) w)), some (sI w), some (sI 0), some (sI i')] [] H := by
              intro i' H' hna k' hs' n1' n2' n3' n4' hi'
              have e42' : H'.1 52 42 = h.1 0 9 := (k'.2.2 42 (by omega) (by omega) (by omega) (by omega) (by omega)).trans p1
              refine zrun_sound t_X9_old C E [104] 60 _ _ _ _ ?_
              refine And.intro hi' (And.intro (by omega) (And.intro (fun _ => ?_) (fun _ => ?_)))
              · exact exit1 0 _ H' (Or.inr ⟨rfl, hna⟩) k' hs' n1' n2' n3' n4'
              · refine And.intro (by decide) (And.intro (fun _ => ?_) (fun q => absurd rfl q))
                exact exit1 0 _ H' (Or.inr ⟨rfl, hna⟩) k' hs' n1' n2' n3' n4'
            refine zrun_sound t_X9_old C E [39, 104] 80 _ _ _ _ ?_
            refine And.intro (by omega) (And.intro (by omega) (And.intro (fun z => absurd z (by omega)) (fun _ => ?_)))
            refine And.intro (by decide) (And.intro (fun q => absurd q (by decide)) (fun _ => ?_))
            refine And.intro (by omega) (And.intro (by omega) ?_)
            rw [t0, e75 i (by omega)]
            refine zcall_i (d' := d - 1) hd1 (c_reachK (by omega) h H (h.1 15 i) a _ (2 ^ w) k hI n1 n2 n3 n4 f0 oa (shl1_w (by omega)) (pw_ok (by omega))) ?_
            rintro _ g ⟨rfl, hf, ht⟩
            have kg := kpR_t k (kpR_R hf)
            have e75g : ∀ j : Nat, (j : Int) < h.1 0 9 → g.1 75 j = h.1 15 j := fun j hj => by
              rw [kg.1 75 rfl]
              exact (p3 j hj).1
            refine And.intro (by omega) (And.intro (by omega) ?_)
            rw [t1, e75g (i + 1) (by omega)]
            refine And.intro ⟨f1.1, by omega⟩ (And.intro (by decide) ?_)
            refine And.intro (by omega) (And.intro (by omega) ?_)
            rw [t1, e75g (i + 1) (by omega)]
            refine And.intro ⟨f1.1, by omega⟩ (And.intro (by decide) ?_)
            have hat := c_X9_isAt (d := d - 1) (by omega) g (h.1 15 (i + 1) / 10000).toNat (h.1 15 (i + 1) % 10000).toNat (h.1 2 8).toNat _ (by omega) (by omega) (by omega) ht
            rw [show (((h.1 15 (i + 1) / 10000).toNat : Nat) : Int) = h.1 15 (i + 1) / 10000 by omega, show (((h.1 15 (i + 1) % 10000).toNat : Nat) : Int) = h.1 15 (i + 1) % 10000 by omega] at hat
            refine zcall_i (d' := d - 1) hd1 hat ?_
            have sg := kpR_sea hf hs
            have i1 := (hf 52 31 rfl).1.trans n1
            have i2 := (hf 52 32 rfl).1.trans n2
            have i3 := (hf 52 34 rfl).1.trans n3
            have i4 : 0 ≤ g.1 52 33 ∧ g.1 52 33 ≤ 200 := by rw [(hf 52 33 rfl).1]; exact n4
            rintro o g' ⟨rfl, ⟨rfl, z⟩ | ⟨rfl, z⟩⟩
            · refine zJ_le (ih2 (i + 1) g (by omega) (fun j hj hj2 => ?_) kg sg i1 i2 i3 i4) (And.intro rfl (And.intro rfl (And.intro rfl (And.intro rfl (And.intro rfl (And.intro rfl trivial)))))) rfl rfl
              by_cases e : j = i
              · subst e
                exact z
              · exact hall j (by omega) hj2
            · exact zJ_le (exit0 ((i : Int) + 1 + 1) g (fun q => z (q i (by omega))) kg sg i1 i2 i3 i4 (by omega)) (And.intro rfl (And.intro rfl (And.intro rfl (And.intro rfl (And.intro rfl (And.intro rfl trivial)))))) rfl rfl
      refine zrun_sound t_X9_old C E [39] 60 _ _ _ _ ?_
      refine And.intro (by omega) (And.intro (by omega) (And.intro (fun z => absurd z (by omega)) (fun _ => ?_)))
      exact zJ_le (inner (h.1 0 9).toNat 0 H0 (by omega) (fun j hj => absurd hj (by omega)) k0 hs0 n10 n20 n30 n40) (And.intro rfl (And.intro rfl (And.intro rfl (And.intro rfl (And.intro rfl (And.intro rfl trivial)))))) rfl rfl
  refine zrun_sound t_X9_old C E [25] 60 _ _ _ _ ?_
  refine zcall_i (d' := d - 1) hd1 g1 ?_
  rintro _ _ ⟨rfl, rfl⟩
  refine And.intro g_in (And.intro (fun c1 => ?_) (fun c1 => And.intro hI ⟨_, rfl, Or.inl ⟨fun z => g_f c1 z, rfl⟩⟩))
  have q1 := g_t c1
  replace q1 : okT h a := q1
  refine And.intro (by omega) (And.intro (by omega) (And.intro (fun c2 => ?_) (fun c2 => ?_)))
  · exact zJ_le (loop q1 (by omega) (h.1 2 4).toNat 0 h (by omega) (kpR_0 h) hI.1.2.2.1 m1 m2 m3 m4) (And.intro rfl (And.intro rfl (And.intro rfl (And.intro rfl trivial)))) rfl rfl
  · exact And.intro hI ⟨_, rfl, Or.inr (Or.inl ⟨q1, by omega, rfl⟩)⟩
theorem pr_old {d : Nat} (hd : 8 ≤ d) {a : Int} (ha : inR a) : Pair2 d k_X8_old k_X9_old [sI a] := fun h hI => by
  refine zC_mono (c_X8_old hd h a ha hI.1.1 hI.1.2.2.1 (mkOK_of hI.1.2.2.2.2.2.2.1)) ?_
  rintro o g ⟨hf, hs, r, rfl, hr⟩
  refine ⟨r, rfl, zC_mono (c_X9_old hd g a ha (Inv_K hI hs hf)) ?_⟩
  rintro o g' ⟨hI', r', rfl, hr'⟩
  rw [oldA_u hr (oldA_k (kpR_K hf) hr')]
  exact ⟨rfl, hI'⟩
