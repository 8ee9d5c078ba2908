theorem setI_eq {h : zH} {c i : Nat} {v : Int} : (setI h c i v).1 c i = v := by rw [setI_at, if_pos ⟨rfl, rfl⟩]
theorem setI_n2 {h : zH} {c i i' : Nat} {v : Int} (hi : i' ≠ i) : (setI h c i v).1 c i' = h.1 c i' := by rw [setI_at, if_neg (fun z => hi z.2)]
/-! ===== the plan is dropped; a move is told ===== -/
def Pair2 (d : Nat) (kc km : zM) (As : List zV) : Prop := ∀ h : zH, Inv2 h → zC d kc (sR 0 :: As) h (fun o g => ∃ r : Int, o = some (sI r) ∧ zC d km (sR 52 :: As) g (fun o' g' => o' = some (sI r) ∧ Inv2 g'))
theorem Pair2_of {d : Nat} {kc km : zM} {As : List zV} (hp : Pair d kc km As) : Pair2 d kc km As := fun h hI => zC_mono (hp h hI) (fun _ _ ⟨r, a, _, c⟩ => ⟨r, a, c⟩)
theorem c_X8_drop {d : Nat} (h : zH) : zC d k_X8_drop [sR 0] h (fun o g => g = setI h 5 3 0 ∧ o = some (sI (h.1 5 3))) :=
  zC_of (by decide +kernel) (Nat.le_of_ble_eq_true rfl) (fun X C E => zrun_sound t_X8_drop C E [] 60 _ _ _ _ (And.intro rfl rfl))
theorem c_X9_drop {d : Nat} (h : zH) : zC d k_X9_drop [sR 52] h (fun o g => g = setI h 52 37 0 ∧ o = some (sI (h.1 52 37))) :=
  zC_of (by decide +kernel) (Nat.le_of_ble_eq_true rfl) (fun X C E => zrun_sound t_X9_drop C E [] 60 _ _ _ _ (And.intro rfl rfl))
theorem pr_drop {d : Nat} : Pair2 d k_X8_drop k_X9_drop [] := fun h hI => by
  refine zC_mono (c_X8_drop h) ?_
  rintro o g ⟨rfl, rfl⟩
  refine ⟨_, rfl, zC_mono (c_X9_drop _) ?_⟩
  rintro o g' ⟨rfl, rfl⟩
  obtain ⟨⟨i1, i2, i3, i4, ⟨j1, -⟩, i6, i7, i8, i9, i10⟩, i11⟩ := hI
  refine ⟨by rw [← j1]; rfl, ⟨i1, i2, i3, i4, ⟨rfl, ⟨(by decide : (0 : Int) ≤ 0), (by decide : (0 : Int) ≤ 12)⟩, fun i hi => absurd hi (by show ¬ (i : Int) < 0; omega)⟩, i6, i7, i8, ?_, i10⟩, i11⟩
  exact Ishf_c i9 (fun k hk => ⟨by rw [setI_ne (by omega), setI_ne (by omega)], rfl⟩) rfl rfl rfl rfl
def okM (h : zH) (a : Int) : Prop := (0 ≤ a ∧ a < h.1 2 10) ∨ (101 ≤ a ∧ a ≤ 340)
theorem c_X3_add {d : Nat} (h : zH) (a : Int) (hn : 0 ≤ h.1 5 3 ∧ h.1 5 3 ≤ 12) : zC d k_X3_add [sR 5, sI a] h (fun o g => (h.1 5 3 = 12 ∧ g = h ∧ o = some (sI 0)) ∨ (h.1 5 3 < 12 ∧ g = setI (setI h 39 (h.1 5 3).toNat a) 5 3 (h.1 5 3 + 1) ∧ o = some (sI 1))) := by
  refine zC_of (by decide +kernel) (Nat.le_of_ble_eq_true rfl) (fun X C E => zrun_sound t_X3_add C E [] 60 _ _ _ _ ?_)
  refine And.intro (by omega) (And.intro (by omega) (And.intro (fun c => ?_) (fun c => ?_)))
  · refine And.intro (by omega) (And.intro (by omega) ?_)
    exact And.intro (Or.inr rfl) (Or.inr ⟨c, rfl, rfl⟩)
  · exact And.intro (Or.inl rfl) (Or.inl ⟨by omega, rfl, rfl⟩)
theorem c_X8_move {d : Nat} (hd : 4 ≤ d) (h : zH) (a : Int) (ha : inR a) (hV : VV h) (hn : 0 ≤ h.1 5 3 ∧ h.1 5 3 ≤ 12) : zC d k_X8_move [sR 0, sI a] h (fun o g => (¬ okM h a ∧ g = h ∧ o = some (sI (-1))) ∨ (okM h a ∧ h.1 5 3 = 12 ∧ g = h ∧ o = some (sI (-3))) ∨ (okM h a ∧ h.1 5 3 < 12 ∧ g = setI (setI h 39 (h.1 5 3).toNat a) 5 3 (h.1 5 3 + 1) ∧ o = some (sI (h.1 5 3 + 1)))) := by
  obtain ⟨⟨hv1, hv2, hv3, hv4, hv5⟩, -⟩ := id hV
  refine zC_of (by decide +kernel) (Nat.le_of_ble_eq_true rfl) (fun X C E => zrun_sound t_X8_move C E [] 60 _ _ _ _ ?_)
  refine zcall_i (d' := d - 1) (by omega) (c_X8_isMove (by omega) h a ha hv4) ?_
  rintro _ _ ⟨rfl, rfl⟩
  refine And.intro g_in (And.intro (fun c1 => ?_) (fun c1 => Or.inl ⟨fun z => g_f c1 z, rfl, rfl⟩))
  have q1 := g_t c1
  refine zcall_i (d' := d - 1) (by omega) (c_X3_add h a hn) ?_
  rintro o g (⟨c2, rfl, rfl⟩ | ⟨c2, rfl, rfl⟩)
  · refine And.intro (by decide) (And.intro (fun _ => ?_) (fun c3 => absurd rfl c3))
    exact Or.inr (Or.inl ⟨q1, c2, rfl, rfl⟩)
  · refine And.intro (by decide) (And.intro (fun c3 => absurd c3 (by decide)) (fun _ => ?_))
    exact Or.inr (Or.inr ⟨q1, c2, rfl, rfl⟩)
theorem c_X9_move {d : Nat} (hd : 4 ≤ d) (h : zH) (a : Int) (ha : inR a) (hw : 0 ≤ h.1 52 21 ∧ h.1 52 21 ≤ 24) (hn : 0 ≤ h.1 52 37 ∧ h.1 52 37 ≤ 12) : zC d k_X9_move [sR 52, sI a] h (fun o g => (¬ ((0 ≤ a ∧ a < h.1 52 21) ∨ (101 ≤ a ∧ a ≤ 340)) ∧ g = h ∧ o = some (sI (-1))) ∨ (((0 ≤ a ∧ a < h.1 52 21) ∨ (101 ≤ a ∧ a ≤ 340)) ∧ h.1 52 37 = 12 ∧ g = h ∧ o = some (sI (-3))) ∨ (((0 ≤ a ∧ a < h.1 52 21) ∨ (101 ≤ a ∧ a ≤ 340)) ∧ h.1 52 37 < 12 ∧ g = setI (setI h 74 (h.1 52 37).toNat a) 52 37 (h.1 52 37 + 1) ∧ o = some (sI (h.1 52 37 + 1)))) := by
  refine zC_of (by decide +kernel) (Nat.le_of_ble_eq_true rfl) (fun X C E => ?_)
  have rest : ((0 ≤ a ∧ a < h.1 52 21) ∨ (101 ≤ a ∧ a ≤ 340)) → zJ X 24 [some (sR 52), some (sI a)] [] h := by
    intro q
    refine zrun_sound t_X9_move C E [] 60 _ _ _ _ ?_
    refine And.intro (by omega) (And.intro (by omega) (And.intro (fun c => ?_) (fun c => ?_)))
    · refine And.intro (by omega) (And.intro (by omega) ?_)
      exact Or.inr (Or.inr ⟨q, by omega, rfl, rfl⟩)
    · exact Or.inr (Or.inl ⟨q, by omega, rfl, rfl⟩)
  refine zrun_sound t_X9_move C E [24] 60 _ _ _ _ ?_
  refine zcall_i (d' := d - 1) (by omega) (c_X9_isWay (by omega) h a ha hw) ?_
  rintro _ _ ⟨rfl, rfl⟩
  refine And.intro g_in (And.intro (fun c1 => rest (Or.inl (g_t c1))) (fun c1 => ?_))
  refine zcall_i (d' := d - 1) (by omega) (c_X9_within h (i2l a) 101 340 a 101 340 (i2l_toInt ha) (by decide) (by decide)) ?_
  rintro _ _ ⟨rfl, rfl⟩
  refine And.intro g_in (And.intro (fun c2 => rest (Or.inr (g_t c2))) (fun c2 => ?_))
  refine Or.inl ⟨?_, rfl, rfl⟩
  rintro (z | z)
  · exact g_f c1 z
  · exact g_f c2 z
theorem pr_move {d : Nat} (hd : 4 ≤ d) {a : Int} (ha : inR a) : Pair2 d k_X8_move k_X9_move [sI a] := fun h hI => by
  have hI2 := hI
  obtain ⟨⟨i1, i2, i3, i4, ⟨j1, j2, j3⟩, i6, i7, i8, i9, i10⟩, i11⟩ := hI
  obtain ⟨⟨hv1, hv2, hv3, hv4, hv5⟩, -⟩ := id i1
  have x4 := i2.1.2.2.2.1
  refine zC_mono (c_X8_move hd h a ha i1 j2) ?_
  rintro o g (⟨q, rfl, rfl⟩ | ⟨q, q2, rfl, rfl⟩ | ⟨q, q2, rfl, rfl⟩)
  · refine ⟨_, rfl, zC_mono (c_X9_move hd g a ha (by omega) (by omega)) ?_⟩
    rw [x4, j1]
    rintro o g' (⟨z, rfl, rfl⟩ | ⟨z, z2, rfl, rfl⟩ | ⟨z, z2, rfl, rfl⟩)
    · exact ⟨rfl, hI2⟩
    · exact absurd z q
    · exact absurd z q
  · refine ⟨_, rfl, zC_mono (c_X9_move hd g a ha (by omega) (by omega)) ?_⟩
    rw [x4, j1]
    rintro o g' (⟨z, rfl, rfl⟩ | ⟨z, z2, rfl, rfl⟩ | ⟨z, z2, rfl, rfl⟩)
    · exact absurd q z
    · exact ⟨rfl, hI2⟩
    · omega
  · obtain ⟨n, hn⟩ : ∃ n : Nat, h.1 5 3 = n := ⟨(h.1 5 3).toNat, by omega⟩
    generalize hg : setI (setI h 39 (h.1 5 3).toNat a) 5 3 (h.1 5 3 + 1) = g
    have f21 : g.1 52 21 = h.1 2 10 := by rw [← hg, ← x4]; rfl
    have f37 : g.1 52 37 = h.1 5 3 := by rw [← hg, ← j1]; rfl
    refine ⟨_, rfl, zC_mono (c_X9_move hd g a ha (by omega) (by omega)) ?_⟩
    rw [f21, f37]
    rintro o g' (⟨z, rfl, rfl⟩ | ⟨z, z2, rfl, rfl⟩ | ⟨z, z2, rfl, rfl⟩)
    · exact absurd q z
    · omega
    · subst hg
      rw [hn, show ((n : Int)).toNat = n from rfl]
      refine ⟨rfl, ⟨i1, i2, i3, i4, ⟨rfl, ⟨?_, ?_⟩, fun i hi => ?_⟩, i6, i7, i8, ?_, i10⟩, i11⟩
      · show 0 ≤ (n : Int) + 1
        omega
      · show (n : Int) + 1 ≤ 12
        omega
      · replace hi : (i : Int) < (n : Int) + 1 := hi
        show (setI h 74 n a).1 74 i = (setI h 39 n a).1 39 i ∧ ((0 ≤ (setI h 39 n a).1 39 i ∧ (setI h 39 n a).1 39 i < h.1 2 10) ∨ (101 ≤ (setI h 39 n a).1 39 i ∧ (setI h 39 n a).1 39 i ≤ 340))
        by_cases e : i = n
        · subst e
          rw [setI_eq, setI_eq]
          exact ⟨rfl, q⟩
        · rw [setI_n2 e, setI_n2 e]
          exact j3 i (by omega)
      · exact Ishf_c i9 (fun k hk => ⟨by rw [setI_ne (by omega), setI_ne (by omega), setI_ne (by omega), setI_ne (by omega)], rfl⟩) rfl rfl rfl rfl
