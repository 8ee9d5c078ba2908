theorem tellR_x {h g : zH} {w : Int} {rc j : Nat} {v : Int} {x : Option zV} (hT : tellR h g w rc j v x) : ∃ r : Int, x = some (sI r) := by
  rcases hT with ⟨-, -, z⟩ | ⟨-, -, z⟩
  · exact ⟨_, z⟩
  · exact ⟨_, z⟩
theorem becR_x {h g : zH} {k : Nat} {v : Int} {x : Option zV} (hT : becR h g k v x) : ∃ r : Int, x = some (sI r) := by
  rcases hT with ⟨-, -, z⟩ | ⟨-, -, z⟩
  · exact ⟨_, z⟩
  · exact ⟨_, z⟩
theorem c_tell {d : Nat} (hd : 4 ≤ d) (h : zH) (w a v : Int) (rc o j : Nat) (ea : a = j) (hr : rowOK w rc o j) (hv : inR v) (hV : VV h) (hn : 0 ≤ h.1 6 5 ∧ h.1 6 5 ≤ 40) : zC d k_X1_tell [sR 6, sI w, sI a, sI v] h (fun x g => tellR h g w rc j v x) := by
  subst ea
  exact c_X1_tell hd h w v rc o j hr hv (inW_R (row_in hV hr)) hn
theorem c_bec {d : Nat} (h : zH) (a v : Int) (k : Nat) (ea : a = k) (hk : k < 88) (hv : inR v) (hold : inR (h.1 53 k)) (hn : 0 ≤ h.1 52 5 ∧ h.1 52 5 ≤ 40) : zC d k_X9_becomes [sR 52, sI a, sI v] h (fun x g => becR h g k v x) := by
  subst ea
  exact c_X9_becomes h k v hk hv hold hn
theorem c_X8_safe {d : Nat} (hd : 6 ≤ d) (h : zH) (a v : Int) (ha : inR a) (hv : inR v) (hV : VV h) (hn : 0 ≤ h.1 6 5 ∧ h.1 6 5 ≤ 40) : zC d k_X8_safe [sR 0, sI a, sI v] h (fun x g => (¬ (okP h a ∧ 0 ≤ v ∧ v ≤ 999) ∧ g = h ∧ x = some (sI (-1))) ∨ ((okP h a ∧ 0 ≤ v ∧ v ≤ 999) ∧ tellR h g 3 25 a.toNat v x)) := by
  obtain ⟨⟨hv1, hv2, hv3, hv4, hv5⟩, -⟩ := id hV
  refine zC_of (by decide +kernel) (Nat.le_of_ble_eq_true rfl) (fun X C E => zrun_sound t_X8_safe C E [] 60 _ _ _ _ ?_)
  refine zcall_i (d' := d - 1) (by omega) (c_X8_isPlace (by omega) h a ha hv3) ?_
  rintro _ _ ⟨rfl, rfl⟩
  refine And.intro g_in (And.intro (fun c1 => Or.inl ⟨fun z => g_f c1 z.1, rfl, rfl⟩) (fun c1 => ?_))
  refine zcall_i (d' := d - 1) (by omega) (c_X8_within h v 0 999 hv (by omega) (by omega)) ?_
  rintro _ _ ⟨rfl, rfl⟩
  refine And.intro g_in (And.intro (fun c2 => ?_) (fun c2 => Or.inl ⟨fun z => g_f c2 z.2, rfl, rfl⟩))
  have q1 := g_t c1
  have q2 := g_t c2
  refine zcall_i (d' := d - 1) (by omega) (c_tell (by omega) h 3 a v 25 0 a.toNat (by omega) (Or.inr (Or.inr (Or.inr (Or.inl ⟨rfl, rfl, rfl, by omega⟩)))) hv hV hn) ?_
  intro x g hT
  obtain ⟨r, rfl⟩ := tellR_x hT
  exact Or.inr ⟨⟨q1, q2⟩, hT⟩
theorem c_X9_safe {d : Nat} (hd : 6 ≤ d) (h : zH) (a v P : Int) (ha : inR a) (hv : inR v) (eP : h.1 52 20 = P) (hP : 0 ≤ P ∧ P ≤ 12) (hold : ∀ k : Nat, k < 88 → inR (h.1 53 k)) (hn : 0 ≤ h.1 52 5 ∧ h.1 52 5 ≤ 40) : zC d k_X9_safe [sR 52, sI a, sI v] h (fun x g => (¬ ((0 ≤ a ∧ a < P) ∧ 0 ≤ v ∧ v ≤ 999) ∧ g = h ∧ x = some (sI (-1))) ∨ (((0 ≤ a ∧ a < P) ∧ 0 ≤ v ∧ v ≤ 999) ∧ becR h g a.toNat v x)) := by
  subst eP
  refine zC_of (by decide +kernel) (Nat.le_of_ble_eq_true rfl) (fun X C E => zrun_sound t_X9_safe C E [] 60 _ _ _ _ ?_)
  refine zcall_i (d' := d - 1) (by omega) (c_X9_isPlace (by omega) h a ha hP) ?_
  rintro _ _ ⟨rfl, rfl⟩
  refine And.intro g_in (And.intro (fun c1 => Or.inl ⟨fun z => g_f c1 z.1, rfl, rfl⟩) (fun c1 => ?_))
  refine zcall_i (d' := d - 1) (by omega) (c_X9_within h (i2l v) 0 999 v 0 999 (i2l_toInt hv) (by decide) (by decide)) ?_
  rintro _ _ ⟨rfl, rfl⟩
  refine And.intro g_in (And.intro (fun c2 => Or.inl ⟨fun z => g_f c2 z.2, rfl, rfl⟩) (fun c2 => ?_))
  have q1 := g_t c1
  have q2 := g_t c2
  refine zcall_i (d' := d - 1) (by omega) (c_bec h a v a.toNat (by omega) (by omega) hv (hold _ (by omega)) hn) ?_
  intro x g hT
  obtain ⟨r, rfl⟩ := becR_x hT
  exact Or.inr ⟨⟨q1, q2⟩, hT⟩
theorem may_R {h : zH} (hV : VV h) (hE : Ieq h) : ∀ k : Nat, k < 88 → inR (h.1 53 k) := fun k hk => by
  have := may_b hV hE k hk
  omega
theorem pr_safe {d : Nat} (hd : 6 ≤ d) {a v : Int} (ha : inR a) (hv : inR v) : Pair2 d k_X8_safe k_X9_safe [sI a, sI v] := fun h hI => by
  have hold := may_R hI.1.1 hI.1.2.1
  obtain ⟨c1, c2, ⟨c3, c4, c5⟩, -⟩ := id hI.1.2.2.2.2.2.1
  have x3 := hI.1.2.1.1.2.2.1
  have hv3 := hI.1.1.1.2.2.1
  refine zC_mono (c_X8_safe hd h a v ha hv hI.1.1 (by omega)) ?_
  rintro x g (⟨q, rfl, rfl⟩ | ⟨q, hT⟩)
  · refine ⟨_, rfl, zC_mono (c_X9_safe hd g a v _ ha hv x3 (by omega) hold (by omega)) ?_⟩
    rintro x g' (⟨z, rfl, rfl⟩ | ⟨z, -⟩)
    · exact ⟨rfl, hI⟩
    · exact absurd z q
  · have hr : rowOK 3 25 0 a.toNat := Or.inr (Or.inr (Or.inr (Or.inl ⟨rfl, rfl, rfl, by have := q.1.1; have := q.1.2; omega⟩)))
    have hi : inW 3 v := by
      unfold inW
      rw [if_neg (by decide), if_neg (by decide)]
      exact q.2
    obtain ⟨⟨r, rfl⟩, fin, e52, e53⟩ := tell_fin hI hr hi hT
    have x3' : g.1 52 20 = h.1 2 8 := by rw [e52]; exact x3
    refine ⟨_, rfl, zC_mono (c_X9_safe hd g a v _ ha hv x3' (by omega) (by rw [e53]; exact hold) (by rw [e52]; omega)) ?_⟩
    rintro x g' (⟨z, -, -⟩ | ⟨z, hB⟩)
    · exact absurd q z
    · exact fin x g' (by rw [Nat.zero_add]; exact hB)
theorem c_X8_sort {d : Nat} (hd : 6 ≤ d) (h : zH) (a v : Int) (ha : inR a) (hv : inR v) (hV : VV h) (hn : 0 ≤ h.1 6 5 ∧ h.1 6 5 ≤ 40) : zC d k_X8_sort [sR 0, sI a, sI v] h (fun x g => (¬ ((0 ≤ a ∧ a ≤ 3) ∧ 50 ≤ v ∧ v ≤ 400) ∧ g = h ∧ x = some (sI (-1))) ∨ (((0 ≤ a ∧ a ≤ 3) ∧ 50 ≤ v ∧ v ≤ 400) ∧ tellR h g 4 32 a.toNat v x)) := by
  refine zC_of (by decide +kernel) (Nat.le_of_ble_eq_true rfl) (fun X C E => zrun_sound t_X8_sort C E [] 60 _ _ _ _ ?_)
  refine zcall_i (d' := d - 1) (by omega) (c_X8_isSort (by omega) h a ha) ?_
  rintro _ _ ⟨rfl, rfl⟩
  refine And.intro g_in (And.intro (fun c1 => Or.inl ⟨fun z => g_f c1 z.1, rfl, rfl⟩) (fun c1 => ?_))
  refine zcall_i (d' := d - 1) (by omega) (c_X8_within h v 50 400 hv (by omega) (by omega)) ?_
  rintro _ _ ⟨rfl, rfl⟩
  refine And.intro g_in (And.intro (fun c2 => ?_) (fun c2 => Or.inl ⟨fun z => g_f c2 z.2, rfl, rfl⟩))
  have q1 := g_t c1
  have q2 := g_t c2
  refine zcall_i (d' := d - 1) (by omega) (c_tell (by omega) h 4 a v 32 84 a.toNat (by omega) (Or.inr (Or.inr (Or.inr (Or.inr ⟨rfl, rfl, rfl, by omega⟩)))) hv hV hn) ?_
  intro x g hT
  obtain ⟨r, rfl⟩ := tellR_x hT
  exact Or.inr ⟨⟨q1, q2⟩, hT⟩
theorem c_X9_sort {d : Nat} (hd : 6 ≤ d) (h : zH) (a v : Int) (ha : inR a) (hv : inR v) (hold : ∀ k : Nat, k < 88 → inR (h.1 53 k)) (hn : 0 ≤ h.1 52 5 ∧ h.1 52 5 ≤ 40) : zC d k_X9_sort [sR 52, sI a, sI v] h (fun x g => (¬ ((0 ≤ a ∧ a ≤ 3) ∧ 50 ≤ v ∧ v ≤ 400) ∧ g = h ∧ x = some (sI (-1))) ∨ (((0 ≤ a ∧ a ≤ 3) ∧ 50 ≤ v ∧ v ≤ 400) ∧ becR h g (84 + a.toNat) v x)) := by
  refine zC_of (by decide +kernel) (Nat.le_of_ble_eq_true rfl) (fun X C E => zrun_sound t_X9_sort C E [] 60 _ _ _ _ ?_)
  refine zcall_i (d' := d - 1) (by omega) (c_X9_isSort (by omega) h a ha) ?_
  rintro _ _ ⟨rfl, rfl⟩
  refine And.intro g_in (And.intro (fun c1 => Or.inl ⟨fun z => g_f c1 z.1, rfl, rfl⟩) (fun c1 => ?_))
  refine zcall_i (d' := d - 1) (by omega) (c_X9_within h (i2l v) 50 400 v 50 400 (i2l_toInt hv) (by decide) (by decide)) ?_
  rintro _ _ ⟨rfl, rfl⟩
  refine And.intro g_in (And.intro (fun c2 => Or.inl ⟨fun z => g_f c2 z.2, rfl, rfl⟩) (fun c2 => ?_))
  have q1 := g_t c1
  have q2 := g_t c2
  refine zcall_i (d' := d - 1) (by omega) (c_bec h (84 + a) v (84 + a.toNat) (by omega) (by omega) hv (hold _ (by omega)) hn) ?_
  intro x g hT
  obtain ⟨r, rfl⟩ := becR_x hT
  exact Or.inr ⟨⟨q1, q2⟩, hT⟩
theorem pr_sort {d : Nat} (hd : 6 ≤ d) {a v : Int} (ha : inR a) (hv : inR v) : Pair2 d k_X8_sort k_X9_sort [sI a, sI v] := fun h hI => by
  have hold := may_R hI.1.1 hI.1.2.1
  obtain ⟨c1, c2, ⟨c3, c4, c5⟩, -⟩ := id hI.1.2.2.2.2.2.1
  refine zC_mono (c_X8_sort hd h a v ha hv hI.1.1 (by omega)) ?_
  rintro x g (⟨q, rfl, rfl⟩ | ⟨q, hT⟩)
  · refine ⟨_, rfl, zC_mono (c_X9_sort hd g a v ha hv hold (by omega)) ?_⟩
    rintro x g' (⟨z, rfl, rfl⟩ | ⟨z, -⟩)
    · exact ⟨rfl, hI⟩
    · exact absurd z q
  · have hr : rowOK 4 32 84 a.toNat := Or.inr (Or.inr (Or.inr (Or.inr ⟨rfl, rfl, rfl, by omega⟩)))
    have hi : inW 4 v := by
      unfold inW
      rw [if_neg (by decide), if_pos (by decide)]
      exact q.2
    obtain ⟨⟨r, rfl⟩, fin, e52, e53⟩ := tell_fin hI hr hi hT
    refine ⟨_, rfl, zC_mono (c_X9_sort hd g a v ha hv (by rw [e53]; exact hold) (by rw [e52]; omega)) ?_⟩
    rintro x g' (⟨z, -, -⟩ | ⟨z, hB⟩)
    · exact absurd q z
    · exact fin x g' hB
/-! alter: N ways, the way's hours fs ls -/
def okA (N fs ls a b v : Int) : Prop := (0 ≤ a ∧ a < N) ∧ ((b = 0 ∧ 0 ≤ v ∧ v ≤ 999) ∨ (b = 1 ∧ 0 ≤ v ∧ v ≤ ls) ∨ (b = 2 ∧ fs ≤ v ∧ v ≤ 1439))
theorem okA_r {N fs ls a b v : Int} (q : okA N fs ls a b v) (hN : N ≤ 24) : ∃ rc o : Nat, rowOK b rc o a.toNat ∧ (b = 0 → rc = 29 ∧ o = 12) ∧ (b = 1 → rc = 30 ∧ o = 36) ∧ (b = 2 → rc = 31 ∧ o = 60) := by
  obtain ⟨⟨q1, q2⟩, q3⟩ := q
  unfold rowOK
  rcases q3 with ⟨rfl, -⟩ | ⟨rfl, -⟩ | ⟨rfl, -⟩
  · exact ⟨29, 12, Or.inl ⟨rfl, rfl, rfl, by omega⟩, fun _ => ⟨rfl, rfl⟩, fun z => absurd z (by decide), fun z => absurd z (by decide)⟩
  · exact ⟨30, 36, Or.inr (Or.inl ⟨rfl, rfl, rfl, by omega⟩), fun z => absurd z (by decide), fun _ => ⟨rfl, rfl⟩, fun z => absurd z (by decide)⟩
  · exact ⟨31, 60, Or.inr (Or.inr (Or.inl ⟨rfl, rfl, rfl, by omega⟩)), fun z => absurd z (by decide), fun z => absurd z (by decide), fun _ => ⟨rfl, rfl⟩⟩
set_option maxHeartbeats 2000000 in
theorem c_X8_alter {d : Nat} (hd : 6 ≤ d) (h : zH) (a b v N fs ls : Int) (ha : inR a) (hb : inR b) (hv : inR v) (hV : VV h) (hn : 0 ≤ h.1 6 5 ∧ h.1 6 5 ≤ 40) (eN : h.1 2 10 = N) (ef : h.1 30 a.toNat = fs) (el : h.1 31 a.toNat = ls) : zC d k_X8_alter [sR 0, sI a, sI b, sI v] h (fun x g => (¬ okA N fs ls a b v ∧ g = h ∧ x = some (sI (-1))) ∨ (okA N fs ls a b v ∧ ∃ rc o : Nat, rowOK b rc o a.toNat ∧ tellR h g b rc a.toNat v x)) := by
  obtain ⟨⟨hv1, hv2, hv3, hv4, hv5⟩, -, -, -, -, hvh, -⟩ := id hV
  subst eN
  refine zC_of (by decide +kernel) (Nat.le_of_ble_eq_true rfl) (fun X C E => ?_)
  have bad : ¬ okA (h.1 2 10) fs ls a b v → zJ X 78 [some (sR 0), some (sI a), some (sI b), some (sI v)] [] h := fun q => zrun_sound t_X8_alter C E [] 60 _ _ _ _ (Or.inl ⟨q, rfl, rfl⟩)
  have good : okA (h.1 2 10) fs ls a b v → zJ X 80 [some (sR 0), some (sI a), some (sI b), some (sI v)] [] h := by
    intro q
    obtain ⟨rc, o, hr, -⟩ := okA_r q (by omega)
    have q0 := q.1.1
    refine zrun_sound t_X8_alter C E [] 60 _ _ _ _ ?_
    refine zcall_i (d' := d - 1) (by omega) (c_tell (by omega) h b a v rc o a.toNat (by omega) hr hv hV hn) ?_
    intro x g hT
    obtain ⟨r, rfl⟩ := tellR_x hT
    exact Or.inr ⟨q, rc, o, hr, hT⟩
  have two : (0 ≤ a ∧ a < h.1 2 10) → (0 ≤ b ∧ b ≤ 2) → (0 ≤ v ∧ v ≤ if b = 0 then 999 else 1439) → zJ X 42 [some (sR 0), some (sI a), some (sI b), some (sI v)] [] h := by
    intro q1 q2 q3
    have hh := hvh a.toNat (by omega)
    rw [ef, el] at hh
    have k0 := q1.1
    have k1 : a < 24 := by omega
    have three : ¬ (b = 1 ∧ ls < v) → zJ X 60 [some (sR 0), some (sI a), some (sI b), some (sI v)] [] h := by
      intro q4
      refine zrun_sound t_X8_alter C E [78, 80] 60 _ _ _ _ ?_
      refine And.intro hb (And.intro (by omega) (And.intro (fun c => ?_) (fun c => ?_)))
      · refine good ⟨q1, ?_⟩
        by_cases c0 : b = 0
        · rw [if_pos c0] at q3
          exact Or.inl ⟨c0, q3⟩
        · exact Or.inr (Or.inl ⟨by omega, q3.1, by omega⟩)
      · refine And.intro k0 (And.intro k1 (And.intro hv (And.intro (show inR (h.1 30 a.toNat) by omega) (And.intro (fun c2 => ?_) (fun c2 => ?_)))))
        · replace c2 : h.1 30 a.toNat ≤ v := c2
          rw [if_neg (by omega)] at q3
          exact good ⟨q1, Or.inr (Or.inr ⟨c, by omega, q3.2⟩)⟩
        · replace c2 : ¬ h.1 30 a.toNat ≤ v := c2
          refine bad (fun z => ?_)
          obtain ⟨-, z⟩ := z
          omega
    refine zrun_sound t_X8_alter C E [60, 78] 60 _ _ _ _ ?_
    refine And.intro hb (And.intro (by omega) (And.intro (fun c => three (fun z => c z.1)) (fun c => ?_)))
    refine And.intro k0 (And.intro k1 (And.intro hv (And.intro (show inR (h.1 31 a.toNat) by omega) (And.intro (fun c2 => ?_) (fun c2 => ?_)))))
    · replace c2 : h.1 31 a.toNat < v := c2
      refine bad (fun z => ?_)
      obtain ⟨-, z⟩ := z
      omega
    · replace c2 : ¬ h.1 31 a.toNat < v := c2
      exact three (fun z => by omega)
  refine zrun_sound t_X8_alter C E [42] 60 _ _ _ _ ?_
  refine zcall_i (d' := d - 1) (by omega) (c_X8_isWay (by omega) h a ha hv4) ?_
  rintro _ _ ⟨rfl, rfl⟩
  refine And.intro g_in (And.intro (fun c1 => Or.inl ⟨fun z => g_f c1 z.1, rfl, rfl⟩) (fun c1 => ?_))
  refine zcall_i (d' := d - 1) (by omega) (c_X8_within h b 0 2 hb (by omega) (by omega)) ?_
  rintro _ _ ⟨rfl, rfl⟩
  refine And.intro g_in (And.intro (fun c2 => ?_) (fun c2 => Or.inl ⟨fun z => g_f c2 (by obtain ⟨-, z⟩ := z; omega), rfl, rfl⟩))
  have q1 := g_t c1
  have q2 := g_t c2
  have hh := hvh a.toNat (by omega)
  rw [ef, el] at hh
  refine And.intro hb (And.intro (fun c3 => ?_) (fun c3 => ?_))
  · refine zcall_i (d' := d - 1) (by omega) (c_X8_within h v 0 1439 hv (by omega) (by omega)) ?_
    rintro _ _ ⟨rfl, rfl⟩
    refine And.intro g_in (And.intro (fun c4 => ?_) (fun c4 => Or.inl ⟨fun z => g_f c4 (by obtain ⟨-, z⟩ := z; omega), rfl, rfl⟩))
    exact two q1 q2 (by rw [if_neg c3]; exact g_t c4)
  · refine zcall_i (d' := d - 1) (by omega) (c_X8_within h v 0 999 hv (by omega) (by omega)) ?_
    rintro _ _ ⟨rfl, rfl⟩
    refine And.intro g_in (And.intro (fun c4 => ?_) (fun c4 => Or.inl ⟨fun z => g_f c4 (by obtain ⟨-, z⟩ := z; omega), rfl, rfl⟩))
    exact two q1 q2 (by rw [if_pos c3]; exact g_t c4)
set_option maxHeartbeats 2000000 in
theorem c_X9_alter {d : Nat} (hd : 6 ≤ d) (h : zH) (a b v N fs ls : Int) (ha : inR a) (hb : inR b) (hv : inR v) (eN : h.1 52 21 = N) (hN : 0 ≤ N ∧ N ≤ 24) (ef : h.1 53 (36 + a.toNat) = fs) (el : h.1 53 (60 + a.toNat) = ls) (hf : inR fs) (hl : inR ls) (hold : ∀ k : Nat, k < 88 → inR (h.1 53 k)) (hn : 0 ≤ h.1 52 5 ∧ h.1 52 5 ≤ 40) : zC d k_X9_alter [sR 52, sI a, sI b, sI v] h (fun x g => (¬ okA N fs ls a b v ∧ g = h ∧ x = some (sI (-1))) ∨ (okA N fs ls a b v ∧ ∃ o : Nat, (b = 0 → o = 12) ∧ (b = 1 → o = 36) ∧ (b = 2 → o = 60) ∧ becR h g (o + a.toNat) v x)) := by
  subst eN
  refine zC_of (by decide +kernel) (Nat.le_of_ble_eq_true rfl) (fun X C E => zrun_sound t_X9_alter C E [] 60 _ _ _ _ ?_)
  refine zcall_i (d' := d - 1) (by omega) (c_X9_isWay (by omega) h a ha hN) ?_
  rintro _ _ ⟨rfl, rfl⟩
  refine And.intro g_in (And.intro (fun c1 => ?_) (fun c1 => Or.inl ⟨fun z => g_f c1 z.1, rfl, rfl⟩))
  have q1 := g_t c1
  have e36 : (36 + a).toNat = 36 + a.toNat := by omega
  have e60 : (60 + a).toNat = 60 + a.toNat := by omega
  refine And.intro hb (And.intro (fun c => Or.inl ⟨fun z => by obtain ⟨-, z⟩ := z; omega, rfl, rfl⟩) ⟨fun c => ?_, fun c => ?_, fun c => ?_, trivial⟩)
  · refine zcall_i (d' := d - 1) (by omega) (c_X9_within h (i2l v) 0 999 v 0 999 (i2l_toInt hv) (by decide) (by decide)) ?_
    rintro _ _ ⟨rfl, rfl⟩
    refine And.intro g_in (And.intro (fun c2 => Or.inl ⟨fun z => g_f c2 (by obtain ⟨-, z⟩ := z; omega), rfl, rfl⟩) (fun c2 => ?_))
    have q2 := g_t c2
    refine zcall_i (d' := d - 1) (by omega) (c_bec h (12 + a) v (12 + a.toNat) (by omega) (by omega) hv (hold _ (by omega)) hn) ?_
    intro x g hT
    obtain ⟨r, rfl⟩ := becR_x hT
    exact Or.inr ⟨⟨q1, Or.inl ⟨c, q2⟩⟩, 12, fun _ => rfl, fun z => by omega, fun z => by omega, hT⟩
  · have k0 : 0 ≤ 60 + a := by omega
    have k1 : 60 + a < 88 := by omega
    refine And.intro k0 (And.intro k1 ?_)
    rw [e60, el]
    refine zcall_i (d' := d - 1) (by omega) (c_X9_within h (i2l v) 0 (i2l ls) v 0 ls (i2l_toInt hv) (by decide) (i2l_toInt hl)) ?_
    rintro _ _ ⟨rfl, rfl⟩
    refine And.intro g_in (And.intro (fun c2 => Or.inl ⟨fun z => g_f c2 (by obtain ⟨-, z⟩ := z; omega), rfl, rfl⟩) (fun c2 => ?_))
    have q2 := g_t c2
    refine zcall_i (d' := d - 1) (by omega) (c_bec h (36 + a) v (36 + a.toNat) (by omega) (by omega) hv (hold _ (by omega)) hn) ?_
    intro x g hT
    obtain ⟨r, rfl⟩ := becR_x hT
    exact Or.inr ⟨⟨q1, Or.inr (Or.inl ⟨by omega, q2⟩)⟩, 36, fun z => by omega, fun _ => rfl, fun z => by omega, hT⟩
  · have k0 : 0 ≤ 36 + a := by omega
    have k1 : 36 + a < 88 := by omega
    refine And.intro k0 (And.intro k1 ?_)
    rw [e36, ef]
    refine zcall_i (d' := d - 1) (by omega) (c_X9_within h (i2l v) (i2l fs) 1439 v fs 1439 (i2l_toInt hv) (i2l_toInt hf) (by decide)) ?_
    rintro _ _ ⟨rfl, rfl⟩
    refine And.intro g_in (And.intro (fun c2 => Or.inl ⟨fun z => g_f c2 (by obtain ⟨-, z⟩ := z; omega), rfl, rfl⟩) (fun c2 => ?_))
    have q2 := g_t c2
    refine zcall_i (d' := d - 1) (by omega) (c_bec h (60 + a) v (60 + a.toNat) (by omega) (by omega) hv (hold _ (by omega)) hn) ?_
    intro x g hT
    obtain ⟨r, rfl⟩ := becR_x hT
    exact Or.inr ⟨⟨q1, Or.inr (Or.inr ⟨by omega, q2⟩)⟩, 60, fun z => by omega, fun z => by omega, fun _ => rfl, hT⟩
theorem pr_alter {d : Nat} (hd : 6 ≤ d) {a b v : Int} (ha : inR a) (hb : inR b) (hv : inR v) : Pair2 d k_X8_alter k_X9_alter [sI a, sI b, sI v] := fun h hI => by
  have hold := may_R hI.1.1 hI.1.2.1
  obtain ⟨c1, c2, ⟨c3, c4, c5⟩, -⟩ := id hI.1.2.2.2.2.2.1
  have x4 := hI.1.2.1.1.2.2.2.1
  have e5 := hI.1.2.1.2.2.2.2.2.1
  have hv4 := hI.1.1.1.2.2.2.1
  have hvh := hI.1.1.2.2.2.2.2.1
  by_cases hw : 0 ≤ a ∧ a < 24
  · have hh := hvh a.toNat (by omega)
    have ee := e5 a.toNat (by omega)
    refine zC_mono (c_X8_alter hd h a b v _ _ _ ha hb hv hI.1.1 (by omega) rfl rfl rfl) ?_
    rintro x g (⟨q, rfl, rfl⟩ | ⟨q, rc, o, hr, hT⟩)
    · refine ⟨_, rfl, zC_mono (c_X9_alter hd g a b v _ _ _ ha hb hv x4 (by omega) ee.2.2.2.2.1 ee.2.2.2.2.2 (by omega) (by omega) hold (by omega)) ?_⟩
      rintro x g' (⟨z, rfl, rfl⟩ | ⟨z, -⟩)
      · exact ⟨rfl, hI⟩
      · exact absurd z q
    · have hi : inW b v := by
        obtain ⟨-, q⟩ := q
        unfold inW
        rcases q with ⟨rfl, q⟩ | ⟨rfl, q⟩ | ⟨rfl, q⟩
        · rw [if_neg (by decide), if_neg (by decide)]; exact q
        · rw [if_pos (by decide)]; omega
        · rw [if_pos (by decide)]; omega
      obtain ⟨⟨r, rfl⟩, fin, e52, e53⟩ := tell_fin hI hr hi hT
      have x4' : g.1 52 21 = h.1 2 10 := by rw [e52]; exact x4
      have x5' : g.1 53 (36 + a.toNat) = h.1 30 a.toNat := by rw [e53]; exact ee.2.2.2.2.1
      have x6' : g.1 53 (60 + a.toNat) = h.1 31 a.toNat := by rw [e53]; exact ee.2.2.2.2.2
      refine ⟨_, rfl, zC_mono (c_X9_alter hd g a b v _ _ _ ha hb hv x4' (by omega) x5' x6' (by omega) (by omega) (by rw [e53]; exact hold) (by rw [e52]; omega)) ?_⟩
      rintro x g' (⟨z, -, -⟩ | ⟨z, o', o1, o2, o3, hB⟩)
      · exact absurd q z
      · have eo : o' = o := by
          unfold rowOK at hr
          obtain ⟨-, q⟩ := q
          omega
        subst eo
        exact fin x g' hB
  · have no : ∀ N fs ls : Int, N ≤ 24 → ¬ okA N fs ls a b v := fun N fs ls hN z => hw ⟨z.1.1, by have := z.1.2; omega⟩
    refine zC_mono (c_X8_alter hd h a b v _ _ _ ha hb hv hI.1.1 (by omega) rfl rfl rfl) ?_
    rintro x g (⟨q, rfl, rfl⟩ | ⟨q, -⟩)
    · by_cases hp : inR (g.1 53 (36 + a.toNat)) ∧ inR (g.1 53 (60 + a.toNat))
      · refine ⟨_, rfl, zC_mono (c_X9_alter hd g a b v _ _ _ ha hb hv x4 (by omega) rfl rfl hp.1 hp.2 hold (by omega)) ?_⟩
        rintro x g' (⟨z, rfl, rfl⟩ | ⟨z, -⟩)
        · exact ⟨rfl, hI⟩
        · exact absurd z (no _ _ _ (by omega))
      · refine ⟨_, rfl, zC_of (by decide +kernel) (Nat.le_of_ble_eq_true rfl) (fun X C E => zrun_sound t_X9_alter C E [] 60 _ _ _ _ ?_)⟩
        refine zcall_i (d' := d - 1) (by omega) (c_X9_isWay (by omega) g a ha (by omega)) ?_
        rintro _ _ ⟨rfl, rfl⟩
        refine And.intro g_in (And.intro (fun c1 => ?_) (fun c1 => ⟨rfl, hI⟩))
        have q1 := g_t c1
        exact absurd ⟨q1.1, by omega⟩ hw
    · exact absurd q (no _ _ _ (by omega))
