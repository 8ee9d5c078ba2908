/-! ===== shelves: put, element, taken ===== -/
def refK (h : zH) (k : Nat) (b : Int) : Int := if h.1 (8 + k) 0 = -1 then -11 else if h.1 (8 + k) 0 = 5 then -12 else if 0 ≤ b ∧ b < h.1 (8 + k) 3 then 0 else -13
def refF (h : zH) (a b : Int) : Int := if 0 ≤ a ∧ a ≤ 5 then refK h a.toNat b else -1
def Ishf0 (h : zH) : Prop := ∀ k : Nat, k < 6 → (h.1 (8 + k) 0 = -1 ∧ h.1 78 k = -1) ∨ (h.1 (8 + k) 0 = 5 ∧ 0 ≤ h.1 78 k ∧ h.1 78 k < 50) ∨ ((0 ≤ h.1 (8 + k) 0 ∧ h.1 (8 + k) 0 ≤ 4) ∧ h.1 78 k = 50 + h.1 (8 + k) 0 ∧ h.1 79 k = h.1 (8 + k) 3 ∧ (0 ≤ h.1 (8 + k) 3 ∧ h.1 (8 + k) 3 ≤ 60))
theorem Ishf0_of {h : zH} (hI : Ishf h) (hn : h.1 7 1 ≤ 50) : Ishf0 h := fun k hk => by
  rcases hI k hk with a | ⟨a, b, c, e⟩ | ⟨a, b, c, e, -⟩
  · exact Or.inl a
  · exact Or.inr (Or.inl ⟨a, by omega, by omega⟩)
  · exact Or.inr (Or.inr ⟨a, b, c, e⟩)
theorem Ishf_R {h : zH} (hI : Ishf0 h) (k : Nat) (hk : k < 6) : inR (h.1 (8 + k) 0) ∧ (¬ h.1 (8 + k) 0 = -1 → ¬ h.1 (8 + k) 0 = 5 → (0 ≤ h.1 (8 + k) 0 ∧ h.1 (8 + k) 0 ≤ 4) ∧ 0 ≤ h.1 (8 + k) 3 ∧ h.1 (8 + k) 3 ≤ 60) := by
  rcases hI k hk with ⟨a, -⟩ | ⟨a, -⟩ | ⟨a, -, -, b⟩
  · exact ⟨by omega, fun z => absurd a z⟩
  · exact ⟨by omega, fun _ z => absurd a z⟩
  · exact ⟨by omega, fun _ _ => ⟨a, b⟩⟩
theorem c_X6_has {d : Nat} (h : zH) (k : Nat) (b : Int) (hk : k < 6) (hb : inR b) (hl : inR (h.1 (8 + k) 3)) : zC d k_X6_has [sR (8 + k), sI b] h (fun o g => h = g ∧ isB o (0 ≤ b ∧ b < h.1 (8 + k) 3)) := by
  refine zC_of (by decide +kernel) (Nat.le_of_ble_eq_true rfl) (fun X C E => zrun_sound t_X6_has C E [] 60 _ _ _ _ ?_)
  rcases (by omega : k = 0 ∨ k = 1 ∨ k = 2 ∨ k = 3 ∨ k = 4 ∨ k = 5) with rfl | rfl | rfl | rfl | rfl | rfl
  all_goals
    refine And.intro hb (And.intro (fun c => ?_) (fun c => ?_))
    · exact And.intro (Or.inl rfl) (And.intro rfl (Or.inr ⟨rfl, fun z => by omega⟩))
    · refine And.intro hb (And.intro hl (And.intro (fun c2 => ?_) (fun c2 => ?_)))
      · exact And.intro (Or.inl rfl) (And.intro rfl (Or.inr ⟨rfl, fun z => Int.not_lt.mpr c2 z.2⟩))
      · exact And.intro (Or.inr rfl) (And.intro rfl (Or.inl ⟨rfl, by omega, Int.not_le.mp c2⟩))
set_option maxHeartbeats 2000000 in
theorem c_X8_refusalOfElement {d : Nat} (hd : 4 ≤ d) (h : zH) (a b : Int) (ha : inR a) (hb : inR b) (hS : Ishf0 h) : zC d k_X8_refusalOfElement [sR 0, sI a, sI b] h (fun o g => h = g ∧ o = some (sI (refF h a b))) := by
  refine zC_of (by decide +kernel) (Nat.le_of_ble_eq_true rfl) (fun X C E => ?_)
  have core : ∀ k : Nat, k < 6 → refF h a b = refK h k b → zJ X 16 [some (sR 0), some (sI a), some (sI b), some (sR (8 + k))] [] h := by
    intro k hk hr
    obtain ⟨s1, s2⟩ := Ishf_R hS k hk
    have hd2 : d - 1 + 1 ≤ d := by omega
    refine zrun_sound t_X8_refusalOfElement C E [] 60 _ _ _ _ ?_
    rw [hr]
    unfold refK
    rcases (by omega : k = 0 ∨ k = 1 ∨ k = 2 ∨ k = 3 ∨ k = 4 ∨ k = 5) with rfl | rfl | rfl | rfl | rfl | rfl
    all_goals
      refine And.intro s1 (And.intro (by decide) (And.intro (fun c => ?_) (fun c => And.intro rfl (by rw [if_pos c]))))
      refine And.intro s1 (And.intro (by decide) (And.intro (fun c2 => ?_) (fun c2 => And.intro rfl (by rw [if_neg c, if_pos c2]))))
      have s3 := (s2 c c2).2
      refine zcall_i (d' := d - 1) hd2 (c_X6_has h _ b hk hb ⟨by omega, by omega⟩) ?_
      rintro o g ⟨rfl, ⟨rfl, z⟩ | ⟨rfl, z⟩⟩
      · refine And.intro (by decide) (And.intro (fun c3 => absurd c3 (by decide)) (fun _ => ?_))
        exact And.intro rfl (by rw [if_neg c, if_neg c2, if_pos z])
      · refine And.intro (by decide) (And.intro (fun _ => ?_) (fun c3 => absurd rfl c3))
        exact And.intro rfl (by rw [if_neg c, if_neg c2, if_neg z])
  refine zrun_sound t_X8_refusalOfElement C E [16] 60 _ _ _ _ ?_
  refine zcall_i (d' := d - 1) (by omega) (c_X8_isShelf (by omega) h a ha) ?_
  rintro _ _ ⟨rfl, rfl⟩
  refine And.intro g_in (And.intro (fun c1 => ?_) (fun c1 => And.intro rfl (by unfold refF; rw [if_neg (g_f c1)])))
  have q1 := g_t c1
  refine And.intro q1.1 (And.intro (show a < 6 by omega) ?_)
  have e : refF h a b = refK h a.toNat b := by unfold refF; rw [if_pos q1]
  clear c1
  rcases (by omega : a = 0 ∨ a = 1 ∨ a = 2 ∨ a = 3 ∨ a = 4 ∨ a = 5) with rfl | rfl | rfl | rfl | rfl | rfl
  · exact core 0 (by omega) e
  · exact core 1 (by omega) e
  · exact core 2 (by omega) e
  · exact core 3 (by omega) e
  · exact core 4 (by omega) e
  · exact core 5 (by omega) e
theorem Ishf_M {h : zH} (hI : Ishf0 h) (k : Nat) (hk : k < 6) (b : Int) : inR (h.1 78 k) ∧ (h.1 78 k < 0 → refK h k b = -11) ∧ (0 ≤ h.1 78 k → h.1 78 k < 50 → refK h k b = -12) ∧ (50 ≤ h.1 78 k → (0 ≤ h.1 79 k ∧ h.1 79 k ≤ 60) ∧ refK h k b = if 0 ≤ b ∧ b < h.1 79 k then 0 else -13) := by
  unfold refK
  rcases hI k hk with ⟨a, c⟩ | ⟨a, c, e⟩ | ⟨a, c, e1, e2⟩
  · rw [c, if_pos a]
    exact ⟨by decide, fun _ => rfl, fun z => absurd z (by decide), fun z => absurd z (by decide)⟩
  · rw [a, if_neg (by decide), if_pos rfl]
    exact ⟨by omega, fun z => by omega, fun _ _ => rfl, fun z => by omega⟩
  · rw [e1, if_neg (by omega), if_neg (by omega)]
    exact ⟨by omega, fun z => by omega, fun _ z => by omega, fun _ => ⟨e2, rfl⟩⟩
theorem c_X9_refusal {d : Nat} (hd : 4 ≤ d) (h : zH) (a b : Int) (ha : inR a) (hb : inR b) (hS : Ishf0 h) : zC d k_X9_refusal [sR 52, sI a, sI b] h (fun o g => h = g ∧ o = some (sI (refF h a b))) := by
  refine zC_of (by decide +kernel) (Nat.le_of_ble_eq_true rfl) (fun X C E => ?_)
  have bad : refF h a b = -13 → zJ X 53 [some (sR 52), some (sI a), some (sI b)] [] h := fun q => zrun_sound t_X9_refusal C E [] 60 _ _ _ _ (And.intro rfl (by rw [q]))
  refine zrun_sound t_X9_refusal C E [53] 60 _ _ _ _ ?_
  refine zcall_i (d' := d - 1) (by omega) (c_X9_isShelf (by omega) h a ha) ?_
  rintro _ _ ⟨rfl, rfl⟩
  refine And.intro g_in (And.intro (fun c1 => ?_) (fun c1 => And.intro rfl (by unfold refF; rw [if_neg (g_f c1)])))
  have q1 := g_t c1
  have e : refF h a b = refK h a.toNat b := by unfold refF; rw [if_pos q1]
  obtain ⟨s1, s2, s3, s4⟩ := Ishf_M hS a.toNat (by omega) b
  rw [← e] at s2 s3 s4
  have k0 := q1.1
  have k1 : a < 6 := by omega
  refine And.intro k0 (And.intro k1 (And.intro s1 (And.intro (fun c2 => ?_) (fun c2 => And.intro rfl (by rw [s2 (Int.not_le.mp c2)])))))
  refine And.intro k0 (And.intro k1 (And.intro s1 (And.intro (by decide) (And.intro (fun c3 => ?_) (fun c3 => And.intro rfl (by rw [s3 c2 (Int.not_le.mp c3)]))))))
  obtain ⟨s5, s6⟩ := s4 c3
  refine And.intro hb (And.intro (fun c4 => bad (by rw [s6, if_neg (by omega)])) (fun c4 => ?_))
  refine And.intro k0 (And.intro k1 (And.intro hb (And.intro ⟨by omega, by omega⟩ (And.intro (fun c5 => bad ?_) (fun c5 => ?_)))))
  · rw [s6, if_neg (fun z => Int.not_lt.mpr c5 z.2)]
  · exact And.intro rfl (by rw [s6, if_pos ⟨Int.not_lt.mp c4, Int.not_le.mp c5⟩])
def keptF (s : Int) (v : Int64) : Int64 := if s = 0 then i2l (i2b (l2i v)) else if s = 1 then i2l (i2s (l2i v)) else if s = 2 then i2l (l2i v) else if s = 4 then (if v = 0 then 0 else 1) else v
theorem c_X6_kept {d : Nat} (h : zH) (k : Nat) (v : Int64) (hk : k < 6) (hs : inR (h.1 (8 + k) 0)) : zC d k_X6_kept [sR (8 + k), sL v] h (fun o g => h = g ∧ o = some (sL (keptF (h.1 (8 + k) 0) v))) := by
  refine zC_of (by decide +kernel) (Nat.le_of_ble_eq_true rfl) (fun X C E => zrun_sound t_X6_kept C E [] 60 _ _ _ _ ?_)
  unfold keptF
  rcases (by omega : k = 0 ∨ k = 1 ∨ k = 2 ∨ k = 3 ∨ k = 4 ∨ k = 5) with rfl | rfl | rfl | rfl | rfl | rfl
  all_goals
    refine And.intro hs (And.intro (fun c => ?_) ⟨fun c => ?_, fun c => ?_, fun c => ?_, fun c => ?_, fun c => ?_, trivial⟩)
    · exact And.intro rfl (by rw [if_neg (by omega), if_neg (by omega), if_neg (by omega), if_neg (by omega)])
    · exact And.intro rfl (by rw [if_pos (by omega)])
    · exact And.intro rfl (by rw [if_neg (by omega), if_pos (by omega)])
    · exact And.intro rfl (by rw [if_neg (by omega), if_neg (by omega), if_pos (by omega)])
    · exact And.intro rfl (by rw [if_neg (by omega), if_neg (by omega), if_neg (by omega), if_neg (by omega)])
    · rw [if_neg (by omega), if_neg (by omega), if_neg (by omega), if_pos (by omega)]
      refine And.intro (fun c2 => ?_) (And.intro (fun c2 => ?_) (fun c2 => ?_))
      · refine And.intro (by decide) (And.intro (fun c3 => absurd c3 (by decide)) (fun _ => ?_))
        exact And.intro rfl (by rw [if_neg (fun z => by rw [z] at c2; exact absurd c2 (by decide))])
      · refine And.intro (by decide) (And.intro (fun _ => ?_) (fun c3 => absurd rfl c3))
        exact And.intro rfl (by rw [if_pos c2])
      · refine And.intro (by decide) (And.intro (fun c3 => absurd c3 (by decide)) (fun _ => ?_))
        exact And.intro rfl (by rw [if_neg (fun z => by rw [z] at c2; exact absurd c2 (by decide))])
theorem c_X9_asSort {d : Nat} (h : zH) (s : Int) (v : Int64) (hs : inR s) : zC d k_X9_asSort [sI s, sL v] h (fun o g => h = g ∧ o = some (sL (keptF s v))) := by
  refine zC_of (by decide +kernel) (Nat.le_of_ble_eq_true rfl) (fun X C E => zrun_sound t_X9_asSort C E [] 60 _ _ _ _ ?_)
  unfold keptF
  refine And.intro hs (And.intro (fun c => ?_) (fun c => And.intro rfl (by rw [if_pos c])))
  rw [if_neg c]
  refine And.intro hs (And.intro (by decide) (And.intro (fun c2 => ?_) (fun c2 => And.intro rfl (by rw [if_pos c2]))))
  rw [if_neg c2]
  refine And.intro hs (And.intro (by decide) (And.intro (fun c3 => ?_) (fun c3 => And.intro rfl (by rw [if_pos c3]))))
  rw [if_neg c3]
  refine And.intro hs (And.intro (by decide) (And.intro (fun c4 => And.intro rfl (by rw [if_neg c4])) (fun c4 => ?_)))
  rw [if_pos c4]
  refine And.intro (fun c2 => ?_) (And.intro (fun c2 => ?_) (fun c2 => ?_))
  · refine And.intro (by decide) (And.intro (fun c3 => absurd c3 (by decide)) (fun _ => ?_))
    exact And.intro rfl (by rw [if_neg (fun z => by rw [z] at c2; exact absurd c2 (by decide))])
  · refine And.intro (by decide) (And.intro (fun _ => ?_) (fun c3 => absurd rfl c3))
    exact And.intro rfl (by rw [if_pos c2])
  · refine And.intro (by decide) (And.intro (fun c3 => absurd c3 (by decide)) (fun _ => ?_))
    exact And.intro rfl (by rw [if_neg (fun z => by rw [z] at c2; exact absurd c2 (by decide))])
theorem refF_0 {h : zH} {a b : Int} (hS : Ishf0 h) (hr : refF h a b = 0) : (0 ≤ a ∧ a ≤ 5) ∧ (0 ≤ h.1 (8 + a.toNat) 0 ∧ h.1 (8 + a.toNat) 0 ≤ 4) ∧ (0 ≤ b ∧ b < 60) ∧ h.1 78 a.toNat = 50 + h.1 (8 + a.toNat) 0 := by
  unfold refF at hr
  by_cases q : 0 ≤ a ∧ a ≤ 5
  · rw [if_pos q] at hr
    unfold refK at hr
    by_cases c1 : h.1 (8 + a.toNat) 0 = -1
    · rw [if_pos c1] at hr; omega
    · rw [if_neg c1] at hr
      by_cases c2 : h.1 (8 + a.toNat) 0 = 5
      · rw [if_pos c2] at hr; omega
      · rw [if_neg c2] at hr
        by_cases c3 : 0 ≤ b ∧ b < h.1 (8 + a.toNat) 3
        · rcases hS a.toNat (by omega) with ⟨z, -⟩ | ⟨z, -⟩ | ⟨z1, z2, z3, z4⟩
          · exact absurd z c1
          · exact absurd z c2
          · exact ⟨q, z1, by omega, z2⟩
        · rw [if_neg c3] at hr; omega
  · rw [if_neg q] at hr; omega
set_option maxHeartbeats 2000000 in
theorem c_X8_put {d : Nat} (hd : 6 ≤ d) (h : zH) (a b : Int) (v : Int64) (ha : inR a) (hb : inR b) (hS : Ishf0 h) : zC d k_X8_put [sR 0, sI a, sI b, sL v] h (fun o g => (¬ refF h a b = 0 ∧ g = h ∧ o = some (sI (refF h a b))) ∨ (refF h a b = 0 ∧ g = setL h (46 + a.toNat) b.toNat (keptF (h.1 (8 + a.toNat) 0) v) ∧ o = some (sI 1))) := by
  have rin : inR (refF h a b) := by
    unfold refF refK
    repeat' split
    all_goals omega
  refine zC_of (by decide +kernel) (Nat.le_of_ble_eq_true rfl) (fun X C E => zrun_sound t_X8_put C E [] 60 _ _ _ _ ?_)
  refine zcall_i (d' := d - 1) (by omega) (c_X8_refusalOfElement (by omega) h a b ha hb hS) ?_
  rintro _ _ ⟨rfl, rfl⟩
  refine And.intro rin (And.intro (fun c => ?_) (fun c => Or.inl ⟨c, rfl, rfl⟩))
  obtain ⟨q, z1, z2, -⟩ := refF_0 hS c
  have sR1 := (Ishf_R hS a.toNat (by omega)).1
  have k0 := q.1
  have k1 : a < 6 := by omega
  have b0 := z2.1
  have b1 := z2.2
  have hd2 : d - 1 + 1 ≤ d := by omega
  refine And.intro k0 (And.intro k1 ?_)
  clear rin
  rcases (by omega : a = 0 ∨ a = 1 ∨ a = 2 ∨ a = 3 ∨ a = 4 ∨ a = 5) with rfl | rfl | rfl | rfl | rfl | rfl
  · refine And.intro k0 (And.intro k1 ?_)
    refine zcall_i (d' := d - 1) hd2 (c_X6_kept h 0 v (by omega) sR1) ?_
    rintro _ _ ⟨rfl, rfl⟩
    exact And.intro b0 (And.intro b1 (Or.inr ⟨c, rfl, rfl⟩))
  · refine And.intro k0 (And.intro k1 ?_)
    refine zcall_i (d' := d - 1) hd2 (c_X6_kept h 1 v (by omega) sR1) ?_
    rintro _ _ ⟨rfl, rfl⟩
    exact And.intro b0 (And.intro b1 (Or.inr ⟨c, rfl, rfl⟩))
  · refine And.intro k0 (And.intro k1 ?_)
    refine zcall_i (d' := d - 1) hd2 (c_X6_kept h 2 v (by omega) sR1) ?_
    rintro _ _ ⟨rfl, rfl⟩
    exact And.intro b0 (And.intro b1 (Or.inr ⟨c, rfl, rfl⟩))
  · refine And.intro k0 (And.intro k1 ?_)
    refine zcall_i (d' := d - 1) hd2 (c_X6_kept h 3 v (by omega) sR1) ?_
    rintro _ _ ⟨rfl, rfl⟩
    exact And.intro b0 (And.intro b1 (Or.inr ⟨c, rfl, rfl⟩))
  · refine And.intro k0 (And.intro k1 ?_)
    refine zcall_i (d' := d - 1) hd2 (c_X6_kept h 4 v (by omega) sR1) ?_
    rintro _ _ ⟨rfl, rfl⟩
    exact And.intro b0 (And.intro b1 (Or.inr ⟨c, rfl, rfl⟩))
  · refine And.intro k0 (And.intro k1 ?_)
    refine zcall_i (d' := d - 1) hd2 (c_X6_kept h 5 v (by omega) sR1) ?_
    rintro _ _ ⟨rfl, rfl⟩
    exact And.intro b0 (And.intro b1 (Or.inr ⟨c, rfl, rfl⟩))
theorem c_X9_put {d : Nat} (hd : 6 ≤ d) (h : zH) (a b : Int) (v : Int64) (ha : inR a) (hb : inR b) (hS : Ishf0 h) : zC d k_X9_put [sR 52, sI a, sI b, sL v] h (fun o g => (¬ refF h a b = 0 ∧ g = h ∧ o = some (sI (refF h a b))) ∨ (refF h a b = 0 ∧ g = setL h 80 (60 * a.toNat + b.toNat) (keptF (h.1 (8 + a.toNat) 0) v) ∧ o = some (sI 1))) := by
  have rin : inR (refF h a b) := by
    unfold refF refK
    repeat' split
    all_goals omega
  refine zC_of (by decide +kernel) (Nat.le_of_ble_eq_true rfl) (fun X C E => zrun_sound t_X9_put C E [] 60 _ _ _ _ ?_)
  refine zcall_i (d' := d - 1) (by omega) (c_X9_refusal (by omega) h a b ha hb hS) ?_
  rintro _ _ ⟨rfl, rfl⟩
  refine And.intro rin (And.intro (fun c => ?_) (fun c => ?_))
  · exact And.intro rin (And.intro (fun c2 => Or.inl ⟨c, rfl, rfl⟩) (fun c2 => absurd c2 c))
  · obtain ⟨q, z1, z2, z3⟩ := refF_0 hS c
    have k0 := q.1
    have k1 : a < 6 := by omega
    have tn : (60 * a + b).toNat = 60 * a.toNat + b.toNat := by omega
    have e50 : h.1 78 a.toNat - 50 = h.1 (8 + a.toNat) 0 := by omega
    refine And.intro k0 (And.intro k1 ?_)
    refine zcall_i (d' := d - 1) (by omega) (c_X9_asSort h _ v (show inR (h.1 78 a.toNat - 50) by omega)) ?_
    rintro _ _ ⟨rfl, rfl⟩
    refine And.intro (by omega) (And.intro (by omega) ?_)
    rw [tn]
    refine And.intro rin (And.intro (fun c2 => absurd c c2) (fun c2 => ?_))
    exact Or.inr ⟨c, by rw [← e50], rfl⟩
theorem pr_put {d : Nat} (hd : 6 ≤ d) {a b : Int} {v : Int64} (ha : inR a) (hb : inR b) : Pair2 d k_X8_put k_X9_put [sI a, sI b, sL v] := fun h hI => by
  have i9 := hI.1.2.2.2.2.2.2.2.2.1
  have i0 := Ishf0_of i9 hI.1.2.2.2.2.2.2.2.1.2.1.2
  refine zC_mono (c_X8_put hd h a b v ha hb i0) ?_
  rintro o g (⟨q, rfl, rfl⟩ | ⟨q, rfl, rfl⟩)
  · refine ⟨_, rfl, zC_mono (c_X9_put hd g a b v ha hb i0) ?_⟩
    rintro o g' (⟨z, rfl, rfl⟩ | ⟨z, -⟩)
    · exact ⟨rfl, hI⟩
    · exact absurd z q
  · have hk := (refF_0 i0 q).1
    have k6 : a.toNat < 6 := by omega
    have hb60 := (refF_0 i0 q).2.2.1
    have i9' : Ishf (setL (setL h (46 + a.toNat) b.toNat (keptF (h.1 (8 + a.toNat) 0) v)) 80 (60 * a.toNat + b.toNat) (keptF (h.1 (8 + a.toNat) 0) v)) := by
      intro k hk6
      rcases i9 k hk6 with y | y | ⟨y1, y2, y3, y4, y5⟩
      · exact Or.inl y
      · exact Or.inr (Or.inl y)
      · refine Or.inr (Or.inr ⟨y1, y2, y3, y4, fun i hi => ?_⟩)
        rw [setL_at, setL_at, setL_at, setL_at]
        by_cases e : k = a.toNat ∧ i = b.toNat
        · obtain ⟨rfl, rfl⟩ := e
          rw [if_pos ⟨rfl, rfl⟩, if_neg (by omega), if_pos ⟨rfl, rfl⟩]
        · rw [if_neg (by omega), if_neg (by omega), if_neg (by omega), if_neg (by omega)]
          exact y5 i hi
    refine ⟨_, rfl, zC_mono (c_X9_put hd (setL h (46 + a.toNat) b.toNat (keptF (h.1 (8 + a.toNat) 0) v)) a b v ha hb i0) ?_⟩
    rintro o g' (⟨z, -, -⟩ | ⟨z, rfl, rfl⟩)
    · exact absurd q z
    · exact ⟨rfl, Inv_shf hI (fun c _ => rfl) i9'⟩
def elF (h : zH) (a b : Int) : Int64 := if refF h a b = 0 then h.2 (46 + a.toNat) b.toNat else -9223372036854775808
def PairL (d : Nat) (kc km : zM) (As : List zV) : Prop := ∀ h : zH, Inv2 h → zC d kc (sR 0 :: As) h (fun o g => ∃ r : Int64, o = some (sL r) ∧ zC d km (sR 52 :: As) g (fun o' g' => o' = some (sL r) ∧ Inv2 g'))
theorem c_X8_element {d : Nat} (hd : 6 ≤ d) (h : zH) (a b : Int) (ha : inR a) (hb : inR b) (hS : Ishf0 h) : zC d k_X8_element [sR 0, sI a, sI b] h (fun o g => h = g ∧ o = some (sL (elF h a b))) := by
  have rin : inR (refF h a b) := by
    unfold refF refK
    repeat' split
    all_goals omega
  refine zC_of (by decide +kernel) (Nat.le_of_ble_eq_true rfl) (fun X C E => zrun_sound t_X8_element C E [] 60 _ _ _ _ ?_)
  refine zcall_i (d' := d - 1) (by omega) (c_X8_refusalOfElement (by omega) h a b ha hb hS) ?_
  rintro _ _ ⟨rfl, rfl⟩
  unfold elF
  refine And.intro rin (And.intro (fun c => ?_) (fun c => And.intro rfl (by rw [if_neg c])))
  rw [if_pos c]
  obtain ⟨q, z1, z2, -⟩ := refF_0 hS c
  have k0 := q.1
  have k1 : a < 6 := by omega
  have b0 := z2.1
  have b1 := z2.2
  refine And.intro k0 (And.intro k1 ?_)
  clear rin
  rcases (by omega : a = 0 ∨ a = 1 ∨ a = 2 ∨ a = 3 ∨ a = 4 ∨ a = 5) with rfl | rfl | rfl | rfl | rfl | rfl
  all_goals exact And.intro b0 (And.intro b1 (And.intro rfl rfl))
theorem c_X9_element {d : Nat} (hd : 6 ≤ d) (h : zH) (a b : Int) (ha : inR a) (hb : inR b) (hS : Ishf0 h) : zC d k_X9_element [sR 52, sI a, sI b] h (fun o g => h = g ∧ o = some (sL (if refF h a b = 0 then h.2 80 (60 * a.toNat + b.toNat) else -9223372036854775808))) := by
  have rin : inR (refF h a b) := by
    unfold refF refK
    repeat' split
    all_goals omega
  refine zC_of (by decide +kernel) (Nat.le_of_ble_eq_true rfl) (fun X C E => zrun_sound t_X9_element C E [] 60 _ _ _ _ ?_)
  refine zcall_i (d' := d - 1) (by omega) (c_X9_refusal (by omega) h a b ha hb hS) ?_
  rintro _ _ ⟨rfl, rfl⟩
  refine And.intro rin (And.intro (fun c => ?_) (fun c => And.intro rfl (by rw [if_neg c])))
  rw [if_pos c]
  obtain ⟨q, z1, z2, -⟩ := refF_0 hS c
  have tn : (60 * a + b).toNat = 60 * a.toNat + b.toNat := by omega
  refine And.intro (by omega) (And.intro (by omega) ?_)
  rw [tn]
  exact And.intro rfl rfl
theorem refF_len {h : zH} {a b : Int} (hr : refF h a b = 0) (k : Nat) (hk : k = a.toNat) : ¬ h.1 (8 + k) 0 = -1 ∧ ¬ h.1 (8 + k) 0 = 5 := by
  subst hk
  unfold refF at hr
  by_cases q : 0 ≤ a ∧ a ≤ 5
  · rw [if_pos q] at hr
    unfold refK at hr
    by_cases c1 : h.1 (8 + a.toNat) 0 = -1
    · rw [if_pos c1] at hr; omega
    · rw [if_neg c1] at hr
      by_cases c2 : h.1 (8 + a.toNat) 0 = 5
      · rw [if_pos c2] at hr; omega
      · exact ⟨c1, c2⟩
  · rw [if_neg q] at hr; omega
theorem pr_element {d : Nat} (hd : 6 ≤ d) {a b : Int} (ha : inR a) (hb : inR b) : PairL d k_X8_element k_X9_element [sI a, sI b] := fun h hI => by
  have i9 := hI.1.2.2.2.2.2.2.2.2.1
  have i0 := Ishf0_of i9 hI.1.2.2.2.2.2.2.2.1.2.1.2
  refine zC_mono (c_X8_element hd h a b ha hb i0) ?_
  rintro o g ⟨rfl, rfl⟩
  refine ⟨_, rfl, zC_mono (c_X9_element hd h a b ha hb i0) ?_⟩
  rintro o g' ⟨rfl, rfl⟩
  refine ⟨?_, hI⟩
  unfold elF
  by_cases c : refF h a b = 0
  · obtain ⟨q, z1, z2, -⟩ := refF_0 i0 c
    obtain ⟨n1, n2⟩ := refF_len c a.toNat rfl
    rw [if_pos c, if_pos c]
    rcases i9 a.toNat (by omega) with ⟨y, -⟩ | ⟨y, -⟩ | ⟨-, -, -, -, y⟩
    · exact absurd y n1
    · exact absurd y n2
    · rw [y b.toNat (by omega)]
  · rw [if_neg c, if_neg c]
