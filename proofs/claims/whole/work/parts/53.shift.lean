/-! ===== shelves: shift, taken ===== -/
theorem sh_at : ∀ k : Nat, k < 6 → ((SHP 14).2.2.getD k (2, 0)).2 = 8 + k := by decide
def okS (h : zH) (a i b j n : Int) : Prop := (0 ≤ a ∧ a ≤ 5) ∧ (0 ≤ b ∧ b ≤ 5) ∧ ¬ h.1 (8 + a.toNat) 0 = -1 ∧ ¬ h.1 (8 + a.toNat) 0 = 5 ∧ h.1 (8 + a.toNat) 0 = h.1 (8 + b.toNat) 0 ∧ 0 ≤ i ∧ 0 ≤ j ∧ 0 ≤ n ∧ i + n ≤ h.1 (8 + a.toNat) 3 ∧ j + n ≤ h.1 (8 + b.toNat) 3
def erS (h : zH) (a b : Int) : Int := if (0 ≤ a ∧ a ≤ 5) ∧ (0 ≤ b ∧ b ≤ 5) then (if h.1 (8 + a.toNat) 0 = -1 ∨ h.1 (8 + b.toNat) 0 = -1 then -11 else if h.1 (8 + a.toNat) 0 = 5 ∨ ¬ h.1 (8 + a.toNat) 0 = h.1 (8 + b.toNat) 0 then -12 else -13) else -1
theorem c_X6_hasRun {d : Nat} (h : zH) (k : Nat) (i n : Int) (hk : k < 6) (hi : inR i) (hn : inR n) (hl : 0 ≤ h.1 (8 + k) 3 ∧ h.1 (8 + k) 3 ≤ 60) : zC d k_X6_hasRun [sR (8 + k), sI i, sI n] h (fun o g => h = g ∧ isB o (0 ≤ i ∧ 0 ≤ n ∧ i + n ≤ h.1 (8 + k) 3)) := by
  refine zC_of (by decide +kernel) (Nat.le_of_ble_eq_true rfl) (fun X C E => zrun_sound t_X6_hasRun C E [] 60 _ _ _ _ ?_)
  obtain ⟨l, hl2⟩ : ∃ l, l = h.1 (8 + k) 3 := ⟨_, rfl⟩
  have lin : inR (h.1 (8 + k) 3) := by omega
  have lin3 : 0 ≤ n → inR (h.1 (8 + k) 3 - n) := fun z => by omega
  rw [← hl2] at hl ⊢
  rcases (by omega : k = 0 ∨ k = 1 ∨ k = 2 ∨ k = 3 ∨ k = 4 ∨ k = 5) with rfl | rfl | rfl | rfl | rfl | rfl
  all_goals
    refine And.intro hi (And.intro (fun c => ?_) (fun c => ?_))
    · exact And.intro (Or.inl rfl) (And.intro rfl (Or.inr ⟨rfl, fun z => by omega⟩))
    · refine And.intro hn (And.intro (fun c2 => ?_) (fun c2 => ?_))
      · exact And.intro (Or.inl rfl) (And.intro rfl (Or.inr ⟨rfl, fun z => by omega⟩))
      · refine And.intro hn (And.intro lin (And.intro (fun c3 => ?_) (fun c3 => ?_)))
        · have c3' : l < n := by rw [hl2]; exact c3
          exact And.intro (Or.inl rfl) (And.intro rfl (Or.inr ⟨rfl, fun z => by omega⟩))
        · have c3' : ¬ l < n := by rw [hl2]; exact c3
          have lin2 := lin3 (Int.not_lt.mp c2)
          refine And.intro hi (And.intro lin2 (And.intro (fun c4 => ?_) (fun c4 => ?_)))
          · have c4' : l - n < i := by rw [hl2]; exact c4
            exact And.intro (Or.inl rfl) (And.intro rfl (Or.inr ⟨rfl, fun z => by omega⟩))
          · have c4' : ¬ l - n < i := by rw [hl2]; exact c4
            exact And.intro (Or.inr rfl) (And.intro rfl (Or.inl ⟨rfl, by omega, by omega, by omega⟩))
def shR (h g : zH) (a i b j n : Int) (o : Option zV) : Prop := (¬ okS h a i b j n ∧ g = h ∧ o = some (sI (erS h a b))) ∨ (okS h a i b j n ∧ g = cpL h (46 + a.toNat) i.toNat (46 + b.toNat) j.toNat n.toNat ∧ o = some (sI n))
theorem shR_e {h : zH} {a i b j n r : Int} (q : ¬ okS h a i b j n) (hr : erS h a b = r) : shR h h a i b j n (some (sI r)) := Or.inl ⟨q, rfl, by rw [hr]⟩
set_option maxHeartbeats 16000000 in
theorem sh_core {X : zX} {d : Nat} {h : zH} {a i b j n : Int} (hd : 6 ≤ d) (C : zCx X d k_X8_shift) (E : zEx X k_X8_shift (fun o g => shR h g a i b j n o)) (k l : Nat) (hk : k < 6) (hl : l < 6) (ea : k = a.toNat) (eb : l = b.toNat) (q1 : 0 ≤ a ∧ a ≤ 5) (q2 : 0 ≤ b ∧ b ≤ 5) (hi : inR i) (hj : inR j) (hn : inR n) (hS : Ishf0 h) :
    zJ X 32 [some (sR 0), some (sI a), some (sI i), some (sI b), some (sI j), some (sI n), some (sR (8 + k)), some (sR (8 + l))] [] h := by
  obtain ⟨s1, s2⟩ := Ishf_R hS k hk
  obtain ⟨s3, s4⟩ := Ishf_R hS l hl
  have b1 : ∀ r : Int, (h.1 (8 + k) 0 = -1 ∨ h.1 (8 + l) 0 = -1) → shR h h a i b j n (some (sI (-11))) := fun _ c => by
    rw [ea, eb] at c
    refine shR_e (fun z => ?_) (by unfold erS; rw [if_pos ⟨q1, q2⟩, if_pos c])
    obtain ⟨-, -, z1, z2, z3, -⟩ := z
    omega
  have b2 : ¬ (h.1 (8 + k) 0 = -1 ∨ h.1 (8 + l) 0 = -1) → (h.1 (8 + k) 0 = 5 ∨ ¬ h.1 (8 + k) 0 = h.1 (8 + l) 0) → shR h h a i b j n (some (sI (-12))) := fun c c' => by
    rw [ea, eb] at c c'
    refine shR_e (fun z => ?_) (by unfold erS; rw [if_pos ⟨q1, q2⟩, if_neg c, if_pos c'])
    obtain ⟨-, -, z1, z2, z3, -⟩ := z
    omega
  have b3 : ¬ (h.1 (8 + k) 0 = -1 ∨ h.1 (8 + l) 0 = -1) → ¬ (h.1 (8 + k) 0 = 5 ∨ ¬ h.1 (8 + k) 0 = h.1 (8 + l) 0) → ¬ ((0 ≤ i ∧ 0 ≤ n ∧ i + n ≤ h.1 (8 + k) 3) ∧ (0 ≤ j ∧ 0 ≤ n ∧ j + n ≤ h.1 (8 + l) 3)) → shR h h a i b j n (some (sI (-13))) := fun c c' c'' => by
    rw [ea, eb] at c c' c''
    refine shR_e (fun z => ?_) (by unfold erS; rw [if_pos ⟨q1, q2⟩, if_neg c, if_neg c'])
    obtain ⟨-, -, -, -, -, z1, z2, z3, z4, z5⟩ := z
    exact c'' ⟨⟨z1, z3, z4⟩, z2, z3, z5⟩
  have b4 : ¬ (h.1 (8 + k) 0 = -1 ∨ h.1 (8 + l) 0 = -1) → ¬ (h.1 (8 + k) 0 = 5 ∨ ¬ h.1 (8 + k) 0 = h.1 (8 + l) 0) → (0 ≤ i ∧ 0 ≤ n ∧ i + n ≤ h.1 (8 + k) 3) → (0 ≤ j ∧ 0 ≤ n ∧ j + n ≤ h.1 (8 + l) 3) → shR h (cpL h (46 + k) i.toNat (46 + l) j.toNat n.toNat) a i b j n (some (sI n)) := fun c c' c1 c2 => by
    rw [ea] at c c' c1 ⊢
    rw [eb] at c c' c2 ⊢
    refine Or.inr ⟨⟨q1, q2, by omega, by omega, by omega, c1.1, c2.1, c1.2.1, c1.2.2, c2.2.2⟩, rfl, rfl⟩
  have hd1 : 1 ≤ d := by omega
  have hd2 : d - 1 + 1 ≤ d := by omega
  have c12f : ∀ {P Q : Prop}, ¬ P → ¬ Q → ¬ (P ∨ Q) := fun p q z => z.elim p q
  have c34f : ∀ {P Q : Prop}, ¬ P → Q → ¬ (P ∨ ¬ Q) := fun p q z => z.elim p (fun z2 => z2 q)
  refine zrun_sound t_X8_shift C E [] 60 _ _ _ _ ?_
  clear E
  rcases (by omega : k = 0 ∨ k = 1 ∨ k = 2 ∨ k = 3 ∨ k = 4 ∨ k = 5) with rfl | rfl | rfl | rfl | rfl | rfl <;> rcases (by omega : l = 0 ∨ l = 1 ∨ l = 2 ∨ l = 3 ∨ l = 4 ∨ l = 5) with rfl | rfl | rfl | rfl | rfl | rfl
  all_goals
    refine And.intro s1 (And.intro (by decide) (And.intro (fun c => b1 0 (Or.inl c)) (fun c => ?_)))
    refine And.intro s3 (And.intro (by decide) (And.intro (fun c2 => ?_) (fun c2 => b1 0 (Or.inr c2))))
    have c12 := c12f c c2
    refine And.intro s1 (And.intro (by decide) (And.intro (fun c3 => b2 c12 (Or.inl c3)) (fun c3 => ?_)))
    refine And.intro s1 (And.intro s3 (And.intro (fun c4 => ?_) (fun c4 => b2 c12 (Or.inr c4))))
    have c34 := c34f c3 c4
    have la := (s2 c c3).2
    have lb' := (s4 c2 (fun z => c3 (c4.trans z))).2
    refine zcall_i (d' := d - 1) hd2 (c_X6_hasRun h _ i n hk hi hn la) ?_
    rintro o g ⟨rfl, ⟨rfl, z⟩ | ⟨rfl, z⟩⟩
    · refine And.intro (by decide) (And.intro (fun c5 => absurd c5 (by decide)) (fun _ => ?_))
      refine zcall_i (d' := d - 1) hd2 (c_X6_hasRun h _ j n hl hj hn lb') ?_
      rintro o g ⟨rfl, ⟨rfl, z2⟩ | ⟨rfl, z2⟩⟩
      · refine And.intro (by decide) (And.intro (fun _ => ?_) (fun c5 => absurd c5 (by decide)))
        refine And.intro hd1 (And.intro z.1 (And.intro z2.1 (And.intro z.2.1 (And.intro (Int.le_trans z.2.2 la.2) (And.intro (Int.le_trans z2.2.2 lb'.2) ?_)))))
        exact b4 c12 c34 z z2
      · refine And.intro (by decide) (And.intro (fun c5 => absurd rfl c5) (fun _ => ?_))
        exact b3 c12 c34 (fun z3 => z2 z3.2)
    · refine And.intro (by decide) (And.intro (fun _ => ?_) (fun c5 => absurd rfl c5))
      exact b3 c12 c34 (fun z3 => z z3.1)
theorem c_X8_shift {d : Nat} (hd : 6 ≤ d) (h : zH) (a i b j n : Int) (ha : inR a) (hi : inR i) (hb : inR b) (hj : inR j) (hn : inR n) (hS : Ishf0 h) :
    zC d k_X8_shift [sR 0, sI a, sI i, sI b, sI j, sI n] h (fun o g => shR h g a i b j n o) := by
  refine zC_of (by decide +kernel) (Nat.le_of_ble_eq_true rfl) (fun X C E => zrun_sound t_X8_shift C E [32] 60 _ _ _ _ ?_)
  refine zcall_i (d' := d - 1) (by omega) (c_X8_isShelf (by omega) h a ha) ?_
  rintro _ _ ⟨rfl, rfl⟩
  refine And.intro g_in (And.intro (fun c1 => shR_e (fun z => g_f c1 z.1) (by unfold erS; rw [if_neg (fun z => g_f c1 z.1)])) (fun c1 => ?_))
  refine zcall_i (d' := d - 1) (by omega) (c_X8_isShelf (by omega) h b hb) ?_
  rintro _ _ ⟨rfl, rfl⟩
  refine And.intro g_in (And.intro (fun c2 => ?_) (fun c2 => shR_e (fun z => g_f c2 z.2.1) (by unfold erS; rw [if_neg (fun z => g_f c2 z.2)])))
  have q1 := g_t c1
  have q2 := g_t c2
  refine And.intro q1.1 (And.intro (show a < 6 by omega) (And.intro q2.1 (And.intro (show b < 6 by omega) ?_)))
  refine zJ_le (sh_core hd C E a.toNat b.toNat (by omega) (by omega) rfl rfl q1 q2 hi hj hn hS) (And.intro rfl (And.intro rfl (And.intro rfl (And.intro rfl (And.intro rfl (And.intro rfl (And.intro ?_ (And.intro ?_ trivial)))))))) rfl rfl
  · exact (congrArg sR (sh_at a.toNat (by omega))).symm
  · exact (congrArg sR (sh_at b.toNat (by omega))).symm
