theorem setI_ne {h : zH} {c c' i : Nat} {v : Int} (hc : c' ≠ c) : (setI h c i v).1 c' = h.1 c' := funext fun i' => by rw [setI_at, if_neg (fun z => hc z.1)]
theorem Ishf_c {h g : zH} (hI : Ishf h) (e : ∀ k, k < 6 → g.1 (8 + k) = h.1 (8 + k) ∧ g.2 (46 + k) = h.2 (46 + k)) (e7 : g.1 7 1 = h.1 7 1) (e78 : g.1 78 = h.1 78) (e79 : g.1 79 = h.1 79) (e80 : g.2 80 = h.2 80) : Ishf g := by
  intro k hk
  rw [(e k hk).1, (e k hk).2, e7, e78, e79, e80]
  exact hI k hk
def countF (h : zH) (a : Int) : Int := if a = 0 then h.1 2 0 else if a = 1 then h.1 2 4 else if a = 2 then h.1 2 8 else if a = 3 then h.1 2 10 else if a = 4 then h.1 1 1 else if a = 5 then h.1 5 3 else if a = 6 then h.1 0 9 else if a = 7 then h.1 6 5 else if a = 8 then h.1 7 1 else if a = 9 then h.1 7 3 else -1
theorem countF_no {h : zH} {a : Int} (c : a < 0 ∨ 9 < a) : countF h a = -1 := by
  unfold countF
  rw [if_neg (by omega), if_neg (by omega), if_neg (by omega), if_neg (by omega), if_neg (by omega), if_neg (by omega), if_neg (by omega), if_neg (by omega), if_neg (by omega), if_neg (by omega)]
theorem c_X8_count {d : Nat} (h : zH) (a : Int) (ha : inR a) : zC d k_X8_count [sR 0, sI a] h (fun o g => h = g ∧ o = some (sI (countF h a))) := by
  refine zC_of (by decide +kernel) (Nat.le_of_ble_eq_true rfl) (fun X C E => zrun_sound t_X8_count C E [] 60 _ _ _ _ ?_)
  refine And.intro ha (And.intro (fun c => And.intro rfl (by rw [countF_no c])) ?_)
  exact ⟨fun c => And.intro rfl (by rw [c]; rfl), fun c => And.intro rfl (by rw [c]; rfl), fun c => And.intro rfl (by rw [c]; rfl), fun c => And.intro rfl (by rw [c]; rfl), fun c => And.intro rfl (by rw [c]; rfl), fun c => And.intro rfl (by rw [c]; rfl), fun c => And.intro rfl (by rw [c]; rfl), fun c => And.intro rfl (by rw [c]; rfl), fun c => And.intro rfl (by rw [c]; rfl), fun c => And.intro rfl (by rw [c]; rfl), trivial⟩
theorem c_X9_count {d : Nat} (h : zH) (a : Int) (ha : inR a) (hI : Inv2 h) : zC d k_X9_count [sR 52, sI a] h (fun o g => h = g ∧ o = some (sI (countF h a))) := by
  obtain ⟨⟨-, ⟨⟨x1, x2, x3, x4, -⟩, -⟩, -, ⟨y1, -⟩, ⟨y2, -⟩, ⟨y3, -⟩, ⟨y4, -⟩, ⟨y5, -, -, y6, -⟩, -⟩, -⟩ := hI
  refine zC_of (by decide +kernel) (Nat.le_of_ble_eq_true rfl) (fun X C E => zrun_sound t_X9_count C E [] 60 _ _ _ _ ?_)
  refine And.intro ha (And.intro (fun c => And.intro rfl (by rw [countF_no c])) ?_)
  exact ⟨fun c => And.intro rfl (by rw [c, x1]; rfl), fun c => And.intro rfl (by rw [c, x2]; rfl), fun c => And.intro rfl (by rw [c, x3]; rfl), fun c => And.intro rfl (by rw [c, x4]; rfl), fun c => And.intro rfl (by rw [c, y1]; rfl), fun c => And.intro rfl (by rw [c, y2]; rfl), fun c => And.intro rfl (by rw [c, y4]; rfl), fun c => And.intro rfl (by rw [c, y3]; rfl), fun c => And.intro rfl (by rw [c, y5]; rfl), fun c => And.intro rfl (by rw [c, y6]; rfl), trivial⟩
theorem pr_count {d : Nat} {a : Int} (ha : inR a) : Pair d k_X8_count k_X9_count [sI a] := fun h hI => by
  refine zC_mono (c_X8_count h a ha) ?_
  rintro o g ⟨rfl, rfl⟩
  refine ⟨_, rfl, hI, zC_mono (c_X9_count h a ha hI) ?_⟩
  rintro o g' ⟨rfl, rfl⟩
  exact ⟨rfl, hI⟩
