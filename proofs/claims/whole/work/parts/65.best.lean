/-! ===== best ===== -/
theorem chF_0 {f : Nat → Int} : ∀ n : Nat, chF f 0 n = 0
  | 0 => rfl
  | n + 1 => by
    unfold chF
    rw [Nat.zero_div, if_neg (by omega), chF_0 n]
theorem pow_bit {w i : Nat} : 2 ^ w / 2 ^ i % 2 = 1 ↔ i = w := by
  constructor
  · intro h
    rcases (by omega : i < w ∨ i = w ∨ w < i) with q | q | q
    · obtain ⟨k, rfl⟩ : ∃ k, w = i + (k + 1) := ⟨w - i - 1, by omega⟩
      rw [Nat.pow_add, Nat.mul_div_cancel_left _ (Nat.pow_pos (by decide)), Nat.pow_succ] at h
      omega
    · exact q
    · rw [Nat.div_eq_of_lt (Nat.pow_lt_pow_right (by decide) q)] at h
      omega
  · rintro rfl
    rw [Nat.div_self (Nat.pow_pos (by decide))]
/-- in one wind of a set goes what goes in the set -/
theorem hiQ_wind {h : zH} {t s n w : Nat} {m : Nat} {x : Int} (hw : w < n) (hb : s / 2 ^ w % 2 = 1) (hx : hiQ h t s n m ≤ x) : hiQ h t (2 ^ w) n m ≤ x := by
  unfold hiQ at *
  rw [hiF_le] at hx ⊢
  refine ⟨hx.1, fun i hi hbi => ?_⟩
  rw [pow_bit] at hbi
  subst hbi
  exact hx.2 i hi hb
theorem SZ_wind {h : zH} {c : Int} {s w : Nat} {F M Y W : Int} (hw : w < (h.1 2 4).toNat) (hb : s / 2 ^ w % 2 = 1) : ∀ p m y p' m' y', SZ h c s F M Y W p m y p' m' y' → SZ h c (2 ^ w) F M Y W p m y p' m' y' := by
  intro p m y p' m' y'
  unfold SZ SQ stS wtS wyS goP wtP
  rintro (⟨e1, e2, e3, e4, e5, e6, e7⟩ | ⟨v, hv, ⟨g1, g2, g3⟩, r⟩)
  · exact Or.inl ⟨e1, e2, e3, e4, e5, hiQ_wind hw hb e6, hiQ_wind hw hb e7⟩
  · exact Or.inr ⟨v, hv, ⟨g1, g2, fun j j1 j2 => hiQ_wind hw hb (g3 j j1 j2)⟩, r⟩
/-- reached by dark in a set of winds -/
def bD (h : zH) (a b c : Int) (s : Nat) : Prop := rdB (SB h c s) (a / 10000).toNat (a % 10000).toNat b.toNat (h.1 2 19).toNat
theorem bD_wind {h : zH} {a b c : Int} {s w : Nat} (hV : VV h) (ha : okF h a) (hc : okT h c) (hw : w < (h.1 2 4).toNat) (hb : s / 2 ^ w % 2 = 1) (hd : bD h a b c s) : bD h a b c (2 ^ w) := by
  obtain ⟨a1, a2, a3⟩ := ha
  exact rdB_le (P := (h.1 2 8).toNat) (fun p m y p' m' y' _ _ z => SZ_wind hw hb p m y p' m' y' z) (SZ_ok hV hc) (by omega) hd
theorem kpR_bD {h g : zH} (k : kpR h g) (a b c : Int) : bD g a b c = bD h a b c := funext fun s => by
  unfold bD SB
  rw [kpR_SZ k, k.1 2 rfl]
abbrev ch (h : zH) (s : Nat) : Int := chF (h.1 24) s (h.1 2 4).toNat
def bsR (h : zH) (a b c : Int) (s : Nat) : Prop := (s = 0 ∨ (1 ≤ s ∧ s ≤ aw h ∧ bD h a b c s)) ∧ (∀ s' : Nat, 1 ≤ s' → s' ≤ aw h → bD h a b c s' → ch h s' ≤ ch h s) ∧ ∀ s' : Nat, 1 ≤ s' → s' < s → bD h a b c s' → ch h s' < ch h s
theorem bsR_u {h : zH} {a b c : Int} {s s' : Nat} (hV : VV h) (x : bsR h a b c s) (y : bsR h a b c s') : s = s' := by
  obtain ⟨w1, w2, -⟩ := aw_ok hV
  have key : ∀ s s' : Nat, bsR h a b c s → bsR h a b c s' → s < s' → False := by
    rintro s s' ⟨x1, x2, x3⟩ ⟨y1, y2, y3⟩ hlt
    rcases y1 with y1 | ⟨y1, y4, y5⟩
    · omega
    · have q := x2 s' y1 y4 y5
      rcases x1 with x1 | ⟨x1, x4, x5⟩
      · subst x1
        have := chF_pos (f := h.1 24) (s := s') _ (Vw_c hV) y1 (by omega)
        have e0 := @chF_0 (h.1 24) (h.1 2 4).toNat
        unfold ch at q
        omega
      · have := y3 s x1 hlt x5
        omega
  rcases (by omega : s < s' ∨ s' < s ∨ s = s') with q | q | q
  · exact (key s s' x y q).elim
  · exact (key s' s y x q).elim
  · exact q
def ok3 (h : zH) (a b c e : Int) : Prop := okF h a ∧ okP h b ∧ okT h c ∧ 0 ≤ e ∧ e ≤ 1
def bestA (h : zH) (a b c e r : Int) : Prop := (¬ ok3 h a b c e ∧ r = -1) ∨ (ok3 h a b c e ∧ ∃ s : Nat, bsR h a b c s ∧ r = if e = 1 then (s : Int) else thF h s)
theorem bestA_u {h : zH} {a b c e r r' : Int} (hV : VV h) (x : bestA h a b c e r) (y : bestA h a b c e r') : r = r' := by
  rcases x with ⟨x1, x2⟩ | ⟨x1, s, x2, x3⟩ <;> rcases y with ⟨y1, y2⟩ | ⟨y1, s', y2, y3⟩
  · omega
  · exact absurd y1 x1
  · exact absurd x1 y1
  · have := bsR_u hV x2 y2
    subst this
    rw [x3, y3]
theorem kpR_th {h g : zH} (k : kpR h g) : (∀ s, ch g s = ch h s) ∧ ∀ s, thF g s = thF h s := by
  have e1 : ∀ s, ch g s = ch h s := fun s => by
    unfold ch
    rw [k.1 24 rfl, k.1 2 rfl]
  refine ⟨e1, fun s => ?_⟩
  unfold thF
  rw [k.1 24 rfl, k.1 2 rfl, kpR_aw k]
theorem bestA_k {h g : zH} (k : kpR h g) {a b c e r : Int} (x : bestA g a b c e r) : bestA h a b c e r := by
  obtain ⟨k1, k2, k3, k4⟩ := kpR_ok k
  have e1 : ok3 g a b c e = ok3 h a b c e := by
    unfold ok3
    rw [k1, k2, k3]
  have e2 : bsR g a b c = bsR h a b c := funext fun s => by
    unfold bsR
    rw [kpR_bD k, kpR_aw k]
    simp only [(kpR_th k).1]
  unfold bestA at *
  rw [e1, e2] at x
  simp only [(kpR_th k).2] at x
  exact x
/-! bits of what was tried -/
def tb (t : Int) (s : Nat) : Bool := (i32 t).toBitVec.getLsbD s
theorem tb_eq (t : Int) (s : Nat) (hs : s < 32) : and32 (ushr32 t (s : Int)) 1 = if tb t s = true then 1 else 0 := by
  rw [and32_1, ushr32_nat (by omega) (by omega)]
  have e : (((i32 t).toBitVec.toNat / 2 ^ ((s : Int)).toNat : Nat) : Int).bmod 4294967296 % 2 = (((i32 t).toBitVec.toNat / 2 ^ s % 2 : Nat) : Int) := by
    rw [show ((s : Int)).toNat = s from rfl]
    generalize (i32 t).toBitVec.toNat / 2 ^ s = x
    rw [Int.bmod_def]
    split <;> omega
  rw [e]
  unfold tb
  rw [BitVec.getLsbD, Nat.testBit, Nat.shiftRight_eq_div_pow]
  have : 1 &&& (i32 t).toBitVec.toNat / 2 ^ s = (i32 t).toBitVec.toNat / 2 ^ s % 2 := by
    rw [Nat.and_comm, Nat.and_one_is_mod]
  rw [this]
  rcases Nat.mod_two_eq_zero_or_one ((i32 t).toBitVec.toNat / 2 ^ s) with q | q
  · rw [q]; rfl
  · rw [q]; rfl
theorem tb_shl : ∀ r : Nat, r < 32 → ∀ s : Nat, s < 32 → (i32 (shl32 1 (r : Int))).toBitVec.getLsbD s = decide (s = r) := by decide +kernel
theorem tb_or (t : Int) {r s : Nat} (hr : r < 32) (hs : s < 32) : tb (or32 t (shl32 1 (r : Int))) s = (tb t s || decide (s = r)) := by
  unfold tb
  rw [show i32 (or32 t (shl32 1 (r : Int))) = i32 t ||| i32 (shl32 1 (r : Int)) from i32_of _, Int32.toBitVec_or, BitVec.getLsbD_or, tb_shl r hr s hs]
theorem tb_0 : ∀ s : Nat, s < 32 → tb 0 s = false := by decide
theorem cntF_add {f g : Nat → Bool} {r : Nat} (hr : f r = false) (hg : ∀ i, g i = (f i || decide (i = r))) : ∀ n : Nat, cntF g n = cntF f n + (if r < n then 1 else 0)
  | 0 => by
    rw [if_neg (by omega)]
    rfl
  | n + 1 => by
    have ih := cntF_add hr hg n
    rw [cntF_s, cntF_s, ih, hg n]
    by_cases e : n = r
    · subst e
      rw [hr, if_neg (by omega : ¬ n < n), if_pos (by omega : n < n + 1)]
      simp
    · have : decide (n = r) = false := decide_eq_false e
      rw [this, Bool.or_false]
      by_cases e2 : r < n
      · rw [if_pos e2, if_pos (by omega : r < n + 1)]
        omega
      · rw [if_neg e2, if_neg (by omega : ¬ r < n + 1)]
        omega
theorem cntF_less {f : Nat → Bool} (h0 : f 0 = false) : ∀ n : Nat, cntF f (n + 1) ≤ n
  | 0 => by
    rw [cntF_s, h0]
    show (0 : Int) + 0 ≤ 0
    decide
  | n + 1 => by
    have := cntF_less h0 n
    rw [cntF_s]
    split <;> omega
def sbS (s u : Nat) : Prop := ∀ i : Nat, i < 5 → s / 2 ^ i % 2 = 1 → u / 2 ^ i % 2 = 1
/-- the likeliest of the sets below k that lie in u and are not in t -/
def liR (h : zH) (u : Nat) (t : Int) (k r : Nat) : Prop := (r = 0 ∨ (1 ≤ r ∧ r < k ∧ sbS r u ∧ tb t r = false)) ∧ (∀ s : Nat, 1 ≤ s → s < k → sbS s u → tb t s = false → ch h s ≤ ch h r) ∧ ∀ s : Nat, 1 ≤ s → s < r → sbS s u → tb t s = false → ch h s < ch h r
set_option maxHeartbeats 1000000 in
theorem c_X8_likeliest {d : Nat} (hd : 3 ≤ d) (h : zH) (u : Nat) (t : Int) (hu : u < 32) (hV : VV h) :
    zC d k_X8_likeliestUntried [sR 0, sI u, sI t] h (fun o g => h = g ∧ ∃ r : Nat, o = some (sI r) ∧ liR h u t (u + 1) r) := by
  have hv2 := hV.1.2.1
  have b1 := fun s => chF_b (s := s) _ (Vw_c hV)
  refine zC_of (by decide +kernel) (Nat.le_of_ble_eq_true rfl) (fun X C E => ?_)
  have loop : ∀ (f k r : Nat), k + f = u + 1 → 1 ≤ k → r < 32 → liR h u t k r → zJ X 5 [some (sR 0), some (sI u), some (sI t), some (sI r), some (sI k)] [] h := by
    intro f
    induction f with
    | zero =>
      intro k r hk k1 hr hl
      have : k = u + 1 := by omega
      subst this
      refine zrun_sound t_X8_likeliestUntried C E [] 60 _ _ _ _ ?_
      refine And.intro (by omega) (And.intro (by omega) (And.intro (fun _ => ?_) (fun z => absurd (by omega) z)))
      exact And.intro rfl ⟨r, rfl, hl⟩
    | succ f ih =>
      intro k r hk k1 hr hl
      obtain ⟨l1, l2, l3⟩ := hl
      have sub := sub_tab k (by omega) u hu
      have tbe := tb_eq t k (by omega)
      have at64 : ∀ r' : Nat, r' < 32 → liR h u t (k + 1) r' → zJ X 64 [some (sR 0), some (sI u), some (sI t), some (sI r'), some (sI k)] [] h := by
        intro r' hr' hl'
        refine zrun_sound t_X8_likeliestUntried C E [5] 60 _ _ _ _ ?_
        exact zJ_le (ih (k + 1) r' (by omega) (by omega) hr' hl') (And.intro rfl (And.intro rfl (And.intro rfl (And.intro rfl (And.intro rfl trivial))))) rfl rfl
      have stay : ¬ (sbS k u ∧ tb t k = false ∧ ch h r < ch h k) → zJ X 64 [some (sR 0), some (sI u), some (sI t), some (sI r), some (sI k)] [] h := by
        intro hn
        refine at64 r hr ⟨?_, fun s s1 s2 s3 s4 => ?_, l3⟩
        · rcases l1 with l1 | ⟨l1, l4, l5⟩
          · exact Or.inl l1
          · exact Or.inr ⟨l1, by omega, l5⟩
        · by_cases e : s = k
          · subst e
            exact Int.not_lt.mp (fun z => hn ⟨s3, s4, z⟩)
          · exact l2 s s1 (by omega) s3 s4
      have no36 : ¬ (sbS k u ∧ tb t k = false) → zJ X 33 [some (sR 0), some (sI u), some (sI t), some (sI r), some (sI k)] [] h := by
        intro hn
        refine zrun_sound t_X8_likeliestUntried C E [64] 60 _ _ _ _ ?_
        refine And.intro (by decide) (And.intro (fun _ => ?_) (fun z => absurd rfl z))
        exact zJ_le (stay (fun z => hn ⟨z.1, z.2.1⟩)) (And.intro rfl (And.intro rfl (And.intro rfl (And.intro rfl (And.intro rfl trivial))))) rfl rfl
      refine zrun_sound t_X8_likeliestUntried C E [5, 33, 64] 80 _ _ _ _ ?_
      refine And.intro (by omega) (And.intro (by omega) (And.intro (fun z => absurd z (by omega)) (fun _ => ?_)))
      refine And.intro (and32_in _ _) (And.intro (fun z => no36 (fun q => z (sub.mpr q.1))) (fun z => ?_))
      have hsb : sbS k u := sub.mp z
      refine And.intro (and32_in _ _) (And.intro (fun z2 => no36 (fun q => z2 ?_)) (fun z2 => ?_))
      · refine tbe.trans ?_
        rw [if_neg (by rw [q.2]; decide)]
      · have hun : tb t k = false := by
          cases q : tb t k with
          | false => rfl
          | true =>
            rw [q, if_pos rfl] at tbe
            exact absurd (tbe.symm.trans z2) (by decide)
        refine And.intro (by decide) (And.intro (fun q => absurd q (by decide)) (fun _ => ?_))
        refine zcall_i (d' := d - 1) (by omega) (c_X2_chanceOf h k (h.1 2 4).toNat (by omega) (by omega) (by omega)) ?_
        rintro _ _ ⟨rfl, rfl⟩
        refine zcall_i (d' := d - 1) (by omega) (c_X2_chanceOf h r (h.1 2 4).toNat hr (by omega) (by omega)) ?_
        rintro _ _ ⟨rfl, rfl⟩
        have bk := b1 k
        have br := b1 r
        refine And.intro (by omega) (And.intro (by omega) (And.intro (fun z3 => ?_) (fun z3 => ?_)))
        · exact zJ_le (stay (fun q => absurd q.2.2 (Int.not_lt.mpr z3))) (And.intro rfl (And.intro rfl (And.intro rfl (And.intro rfl (And.intro rfl trivial))))) rfl rfl
        · have hlt : ch h r < ch h k := Int.not_le.mp z3
          refine zJ_le (at64 k (by omega) ⟨Or.inr ⟨k1, by omega, hsb, hun⟩, fun s s1 s2 s3 s4 => ?_, fun s s1 s2 s3 s4 => ?_⟩) (And.intro rfl (And.intro rfl (And.intro rfl (And.intro rfl (And.intro rfl trivial))))) rfl rfl
          · by_cases e : s = k
            · subst e
              exact Int.le_refl _
            · have := l2 s s1 (by omega) s3 s4
              omega
          · have := l2 s s1 s2 s3 s4
            omega
  refine zrun_sound t_X8_likeliestUntried C E [5] 60 _ _ _ _ ?_
  exact zJ_le (loop u 1 0 (by omega) (by omega) (by omega) ⟨Or.inl rfl, fun s s1 s2 => absurd s2 (by omega), fun s s1 s2 => absurd s2 (by omega)⟩) (And.intro rfl (And.intro rfl (And.intro rfl (And.intro rfl (And.intro rfl trivial))))) rfl rfl
