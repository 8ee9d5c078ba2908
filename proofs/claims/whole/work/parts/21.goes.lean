/-- a way goes from m on: within its hours, over by the day's end, the sea nowhere above b -/
def goP (fs ls tk : Int) (hi : Nat → Int) (b : Int) (m : Nat) : Prop := (fs ≤ m ∧ (m : Int) ≤ ls) ∧ (m : Int) + tk ≤ 1439 ∧ ∀ j : Nat, m ≤ j → (j : Int) ≤ m + tk → hi j ≤ b
def wtP (hi : Nat → Int) (sf : Int) (m : Nat) : Prop := m < 1439 ∧ hi m ≤ sf ∧ hi (m + 1) ≤ sf
/-- an answer 0 or 1 that tells whether p -/
def isB (o : Option zV) (p : Prop) : Prop := (o = some (sI 1) ∧ p) ∨ (o = some (sI 0) ∧ ¬ p)
def fsR (h : zH) (w : Nat) : Int := if h.1 52 31 = (w : Int) then 0 else h.1 53 (36 + w)
def lsR (h : zH) (w : Nat) : Int := if h.1 52 31 = (w : Int) then 1439 else h.1 53 (60 + w)
set_option maxHeartbeats 4000000 in
theorem c_X9_goes {d : Nat} (hd : 1 ≤ d) (h : zH) (w m y σ P N : Nat) (hi be : Nat → Int) (hL : Lay h σ hi be P N) (hw : w < N) (hN : N ≤ 24) (hm : m < 1440) (hy : y ≤ 3) (hσ : σ < 4) (hl : 1 ≤ h.1 68 w ∧ h.1 68 w ≤ 90) (hh : 50 ≤ h.1 53 (84 + σ) ∧ h.1 53 (84 + σ) ≤ 400) (hfr : inR (h.1 52 31)) (hf : 0 ≤ h.1 53 (36 + w) ∧ h.1 53 (36 + w) ≤ 1439) (hl2 : 0 ≤ h.1 53 (60 + w) ∧ h.1 53 (60 + w) ≤ 1439) :
    zC d k_X9_goes [sR 52, sI w, sI m, sI y] h (fun o g => h = g ∧ isB o (goP (fsR h w) (lsR h w) (takeF (h.1 68 w) (h.1 53 (84 + σ)) y) hi (be w) m)) := by
  obtain ⟨h27, -, -, hT⟩ := hL
  obtain ⟨-, htb⟩ := takeF_b (y := (y : Int)) hl hh (by omega)
  refine zC_of (by decide +kernel) (Nat.le_of_ble_eq_true rfl) (fun X C E => ?_)
  obtain ⟨e, he⟩ : ∃ e : Nat, (m : Int) + takeF (h.1 68 w) (h.1 53 (84 + σ)) y = e := ⟨((m : Int) + takeF (h.1 68 w) (h.1 53 (84 + σ)) y).toNat, by omega⟩
  have tail : ∀ b : Int, (b = 0 ∨ b = 1) → (b = 1 ↔ (fsR h w ≤ m ∧ (m : Int) ≤ lsR h w)) → zJ X 53 [some (sR 52), some (sI w), some (sI m), some (sI y), some (sI e)] [sI b] h := by
    intro b hb hb1
    have ek : (1441 * (w : Int) + e + 1).toNat = 1441 * w + (e + 1) := by omega
    have em : (1441 * (w : Int) + m).toNat = 1441 * w + m := by omega
    refine zrun_sound t_X9_goes C E [] 80 _ _ _ _ ?_
    refine And.intro (by omega) (And.intro (fun c => ?_) (fun c => ?_))
    · refine And.intro (Or.inl rfl) (And.intro rfl (Or.inr ⟨rfl, fun q => ?_⟩))
      have := hb1.mpr q.1
      omega
    · have hb2 := hb1.mp (by omega)
      refine And.intro (by omega) (And.intro (by omega) (And.intro (fun c => ?_) (fun c => ?_)))
      · refine And.intro (Or.inl rfl) (And.intro rfl (Or.inr ⟨rfl, fun q => ?_⟩))
        have := q.2.1
        omega
      · have t1 := hT w (e + 1) hw (by omega)
        have t2 := hT w m hw (by omega)
        have b1 := cntF_b (fun j => decide (be w < hi j)) (e + 1)
        have b2 := cntF_b (fun j => decide (be w < hi j)) m
        have up := (cntF_up (fun j => decide (be w < hi j)) m (e + 1 - m)).2
        rw [show m + (e + 1 - m) = e + 1 by omega] at up
        refine And.intro (by omega) (And.intro (by omega) ?_)
        refine And.intro (by omega) (And.intro (by omega) ?_)
        rw [ek, em, t1, t2]
        refine And.intro (by omega) (And.intro (by omega) (And.intro (fun c3 => ?_) (fun c3 => ?_)))
        · refine And.intro (Or.inl rfl) (And.intro rfl (Or.inr ⟨rfl, fun q => c3 ?_⟩))
          refine up.mpr (fun j a1 a2 => ?_)
          have := q.2.2 j a1 (by omega)
          simp
          omega
        · refine And.intro (Or.inr rfl) (And.intro rfl (Or.inl ⟨rfl, hb2, by omega, fun j a1 a2 => ?_⟩))
          have := up.mp c3 j a1 (by omega)
          simp at this
          omega
  have e36 : (36 + (w : Int)).toNat = 36 + w := by omega
  have e60 : (60 + (w : Int)).toNat = 60 + w := by omega
  refine zrun_sound t_X9_goes C E [53] 80 _ _ _ _ ?_
  have hc := c_X9_takesOf (d := d - 1) h w σ y (by omega) hσ (by omega) hl hh
  rw [← h27] at hc
  refine zcall_i (d' := d - 1) (by omega) hc ?_
  rintro o g ⟨rfl, rfl⟩
  unfold fsR lsR at tail
  refine And.intro (by omega) (And.intro hfr (And.intro (fun c => ?_) (fun c => ?_)))
  · rw [if_pos c.symm, if_pos c.symm] at tail
    exact zJ_le (tail 1 (Or.inr rfl) ⟨fun _ => by omega, fun _ => rfl⟩) (And.intro rfl (And.intro rfl (And.intro rfl (And.intro rfl (And.intro (by rw [he]) trivial))))) rfl rfl
  · rw [if_neg (fun q => c q.symm), if_neg (fun q => c q.symm)] at tail
    refine And.intro (by omega) (And.intro (by omega) ?_)
    rw [e36]
    refine And.intro (by omega) (And.intro (by omega) (And.intro (fun c2 => ?_) (fun c2 => ?_)))
    · exact zJ_le (tail 0 (Or.inl rfl) ⟨fun q => by omega, fun q => by omega⟩) (And.intro rfl (And.intro rfl (And.intro rfl (And.intro rfl (And.intro (by rw [he]) trivial))))) rfl rfl
    · refine And.intro (by omega) (And.intro (by omega) ?_)
      rw [e60]
      refine And.intro (by omega) (And.intro (by omega) (And.intro (fun c3 => ?_) (fun c3 => ?_)))
      · exact zJ_le (tail 0 (Or.inl rfl) ⟨fun q => by omega, fun q => by omega⟩) (And.intro rfl (And.intro rfl (And.intro rfl (And.intro rfl (And.intro (by rw [he]) trivial))))) rfl rfl
      · exact zJ_le (tail 1 (Or.inr rfl) ⟨fun q => by omega, fun q => rfl⟩) (And.intro rfl (And.intro rfl (And.intro rfl (And.intro rfl (And.intro (by rw [he]) trivial))))) rfl rfl
set_option maxHeartbeats 4000000 in
theorem c_X9_waits {d : Nat} (h : zH) (p m σ P N : Nat) (hi be : Nat → Int) (hL : Lay h σ hi be P N) (hp : p < P) (hP : P ≤ 12) (hm : m < 1440) (hnw : inR (h.1 52 34)) :
    zC d k_X9_waits [sR 52, sI p, sI m] h (fun o g => h = g ∧ isB o (¬ (p : Int) = h.1 52 34 ∧ wtP hi (h.1 53 p) m)) := by
  obtain ⟨-, -, hT, -⟩ := hL
  have ek : (1440 * (p : Int) + m).toNat = 1440 * p + m := by omega
  have em : (1440 * (p : Int) + m + 1).toNat = 1440 * p + (m + 1) := by omega
  refine zC_of (by decide +kernel) (Nat.le_of_ble_eq_true rfl) (fun X C E => zrun_sound t_X9_waits C E [] 80 _ _ _ _ ?_)
  refine And.intro (by omega) (And.intro (by omega) (And.intro (fun c => ?_) (fun c => ?_)))
  · exact And.intro (Or.inl rfl) (And.intro rfl (Or.inr ⟨rfl, fun q => by have := q.2.1; omega⟩))
  · have t1 := hT p m hp (by omega)
    have t2 := hT p (m + 1) hp (by omega)
    refine And.intro (by omega) (And.intro hnw (And.intro (fun c2 => ?_) (fun c2 => ?_)))
    · exact And.intro (Or.inl rfl) (And.intro rfl (Or.inr ⟨rfl, fun q => q.1 c2⟩))
    · refine And.intro (by omega) (And.intro (by omega) ?_)
      rw [ek, t1]
      refine And.intro (by split <;> omega) (And.intro (fun c3 => ?_) (fun c3 => ?_))
      · exact And.intro (Or.inl rfl) (And.intro rfl (Or.inr ⟨rfl, fun q => by have := q.2.2.1; rw [if_pos this] at c3; omega⟩))
      · have g1 : hi m ≤ h.1 53 p := by
          by_cases g : hi m ≤ h.1 53 p
          · exact g
          · rw [if_neg g] at c3; omega
        refine And.intro (by omega) (And.intro (by omega) ?_)
        rw [em, t2]
        refine And.intro (by split <;> omega) (And.intro (fun c4 => ?_) (fun c4 => ?_))
        · exact And.intro (Or.inl rfl) (And.intro rfl (Or.inr ⟨rfl, fun q => by have := q.2.2.2; rw [if_pos this] at c4; omega⟩))
        · have g2 : hi (m + 1) ≤ h.1 53 p := by
            by_cases g : hi (m + 1) ≤ h.1 53 p
            · exact g
            · rw [if_neg g] at c4; omega
          exact And.intro (Or.inr rfl) (And.intro rfl (Or.inl ⟨rfl, c2, by omega, g1, g2⟩))
def otherF (one other : Nat → Int) (w : Nat) (p : Int) : Int := if one w = p then other w else if other w = p then one w else -1
theorem c_X9_otherEnd {d : Nat} (h : zH) (w : Nat) (p : Int) (hw : w < 24) (hp : inR p) (h1 : inR (h.1 66 w)) (h2 : inR (h.1 67 w)) : zC d k_X9_otherEnd [sR 52, sI w, sI p] h (fun o g => h = g ∧ o = some (sI (otherF (h.1 66) (h.1 67) w p))) := by
  refine zC_of (by decide +kernel) (Nat.le_of_ble_eq_true rfl) (fun X C E => zrun_sound t_X9_otherEnd C E [] 80 _ _ _ _ ?_)
  have ew : ((w : Int)).toNat = w := rfl
  refine And.intro (by omega) (And.intro (by omega) ?_)
  rw [ew]
  unfold otherF
  refine And.intro h1 (And.intro hp (And.intro (fun c => ?_) (fun c => ?_)))
  · refine And.intro (by omega) (And.intro (by omega) ?_)
    refine And.intro h2 (And.intro hp (And.intro (fun c2 => ?_) (fun c2 => ?_)))
    · rw [ew] at c2
      exact And.intro rfl (by rw [if_neg c, if_neg c2])
    · rw [ew] at c2
      refine And.intro (by omega) (And.intro (by omega) ?_)
      exact And.intro rfl (by rw [if_neg c, if_pos c2]; rfl)
  · refine And.intro (by omega) (And.intro (by omega) ?_)
    exact And.intro rfl (by rw [if_pos c]; rfl)
set_option maxHeartbeats 4000000 in
theorem c_X3_wayGoes {d : Nat} (hd : 1 ≤ d) (h : zH) (w m s y : Nat) (hw : w < 24) (hm : m < 1440) (hs : s < 4) (hy : y ≤ 3) (hl : 1 ≤ h.1 28 w ∧ h.1 28 w ≤ 90) (hh : 50 ≤ h.1 32 s ∧ h.1 32 s ≤ 400) (h29 : inR (h.1 29 w)) (h30 : inR (h.1 30 w)) (h31 : inR (h.1 31 w)) (hr : ∀ j : Nat, j < 1440 → inR (h.1 34 j)) :
    zC d k_X3_wayGoes [sR 5, sI w, sI m, sI s, sI y] h (fun o g => h = g ∧ isB o (goP (h.1 30 w) (h.1 31 w) (takeF (h.1 28 w) (h.1 32 s) y) (h.1 34) (h.1 29 w) m)) := by
  obtain ⟨-, htb⟩ := takeF_b (y := (y : Int)) hl hh (by omega)
  have ew : ((w : Int)).toNat = w := rfl
  refine zC_of (by decide +kernel) (Nat.le_of_ble_eq_true rfl) (fun X C E => zrun_sound t_X3_wayGoes C E [] 90 _ _ _ _ ?_)
  refine And.intro (by omega) (And.intro (by omega) ?_)
  rw [ew]
  refine And.intro (by omega) (And.intro h30 (And.intro (fun c => ?_) (fun c => ?_)))
  · exact And.intro (Or.inl rfl) (And.intro rfl (Or.inr ⟨rfl, fun q => by have := q.1; omega⟩))
  · refine And.intro (by omega) (And.intro (by omega) ?_)
    rw [ew]
    refine And.intro (by omega) (And.intro h31 (And.intro (fun c2 => ?_) (fun c2 => ?_)))
    · exact And.intro (Or.inl rfl) (And.intro rfl (Or.inr ⟨rfl, fun q => by have := q.1; omega⟩))
    · refine And.intro (by omega) (And.intro (by omega) ?_)
      rw [ew]
      refine zcall_i (d' := d - 1) (by omega) (c_X4_firstAbove h (h.1 29 w) m h29 (by omega) hr) ?_
      rintro o g ⟨rfl, r, rfl, r1, r2, r3, r4⟩
      refine zcall_i (d' := d - 1) (by omega) (c_X2_taking h w s y hw hs (by omega) hl hh) ?_
      rintro o g ⟨rfl, rfl⟩
      refine And.intro (by omega) (And.intro (by omega) (And.intro (fun c3 => ?_) (fun c3 => ?_)))
      · refine And.intro (Or.inl rfl) (And.intro rfl (Or.inr ⟨rfl, fun q => ?_⟩))
        by_cases hr14 : r < 1440
        · have := q.2.2 r r1 c3
          have := r4 hr14
          omega
        · have := q.2.1
          omega
      · exact And.intro (Or.inr rfl) (And.intro rfl (Or.inl ⟨rfl, by omega, by omega, fun j a b => r3 j a (by omega)⟩))
