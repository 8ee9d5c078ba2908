def tdM (h g : zH) (T : Nat) (l : List (Int × Int)) : Prop := (∀ c, c ≠ 52 → c ≠ 58 → c ≠ 59 → c ≠ 60 → c ≠ 61 → c ≠ 62 → g.1 c = h.1 c) ∧ (∀ c, tpB c = false → g.2 c = h.2 c) ∧ g.1 52 7 = 0 ∧ (∀ i, i ≠ 7 → i ≠ 8 → i ≠ 14 → i ≠ 15 → g.1 52 i = h.1 52 i) ∧ g.1 52 8 = T + 1 ∧ tdRow (h.1 58) (h.1 59) (h.1 60) (g.1 58) (g.1 59) (g.1 60) T l
def ftM (h g : zH) : Prop := (∀ c, c ≠ 52 → c ≠ 61 → c ≠ 62 → g.1 c = h.1 c) ∧ (∀ c, tpB c = false → g.2 c = h.2 c) ∧ g.1 52 7 = 0 ∧ (∀ i, i ≠ 7 → i ≠ 14 → i ≠ 15 → g.1 52 i = h.1 52 i)
def tdN (h : zH) (B : Nat → Int) (L : Nat) (full fault : Prop) (good : Nat → List (Int × Int) → Prop) (r : Int) : Prop := (h.1 52 8 = 10 ∧ full ∧ r = -3) ∨ (h.1 52 8 < 10 ∧ (rdF B L 12 0 (-1)).1 ≠ -1 ∧ fault ∧ r = -100 - (rdF B L 12 0 (-1)).1) ∨ (h.1 52 8 < 10 ∧ (rdF B L 12 0 (-1)).1 = -1 ∧ good (h.1 52 8).toNat (rdF B L 12 0 (-1)).2 ∧ r = h.1 52 8)
abbrev frTk : Nat → Nat → Bool := fun c _ => c == 59 || c == 60
set_option maxHeartbeats 2000000 in
theorem c_X9_tide {d : Nat} (hd : 6 ≤ d) (h : zH) (L : Nat) (h0 : 0 ≤ h.1 52 8 ∧ h.1 52 8 ≤ 10) (h1 : h.1 52 7 = L) (hL : L ≤ 120) (hB : ∀ i : Nat, i < 120 → 0 ≤ h.1 57 i ∧ h.1 57 i ≤ 255) :
    zC d k_X9_tide [sR 52] h (fun o g => ∃ r : Int, o = some (sI r) ∧ tdN h (h.1 57) L (g = h) (ftM h g) (tdM h g) r) := by
  have rl := rdF_len (h.1 57) L 12 0 (-1)
  have rr := rdF_r (h.1 57) L hL 12 0 (-1) (by omega)
  have rd := c_X9_readPoints (d := d - 1) (by omega) h L h1 hL hB
  have i0 : inR (h.1 52 8) := by omega
  refine zC_of (by decide +kernel) (Nat.le_of_ble_eq_true rfl) (fun X C E => ?_)
  generalize hR : rdF (h.1 57) L 12 0 (-1) = R at *
  obtain ⟨T, hT⟩ : ∃ T : Nat, h.1 52 8 = T := ⟨(h.1 52 8).toNat, by omega⟩
  have copy : ∀ (w1 : Int), h.1 52 8 < 10 → R.1 = -1 → ∀ (G0 : zH), (∀ c, c ≠ 52 → c ≠ 58 → c ≠ 61 → c ≠ 62 → G0.1 c = h.1 c) → (∀ c, tpB c = false → G0.2 c = h.2 c) → G0.1 52 7 = 0 → (∀ i, i ≠ 7 → i ≠ 14 → i ≠ 15 → G0.1 52 i = h.1 52 i) → (∀ i, G0.1 58 i = if i = T then (R.2.length : Int) else h.1 58 i) → G0.1 52 14 = R.2.length → (∀ i, i < R.2.length → G0.1 61 i = (R.2.getD i (0, 0)).1 ∧ G0.1 62 i = (R.2.getD i (0, 0)).2) →
      ∀ (f k : Nat) (G : zH), k + f = R.2.length → fr frTk G0 G → (∀ i, G.1 59 i = if 12 * T ≤ i ∧ i < 12 * T + k then (R.2.getD (i - 12 * T) (0, 0)).1 else h.1 59 i) → (∀ i, G.1 60 i = if 12 * T ≤ i ∧ i < 12 * T + k then (R.2.getD (i - 12 * T) (0, 0)).2 else h.1 60 i) → zJ X 49 [some (sR 52), some (sI w1), some (sI k)] [] G := by
    intro w1 hlt hok G0 g1 g2 g7 g52 g58 g14 g61 f
    induction f with
    | zero =>
      intro k G hk hf h59 h60
      have hk' : k = R.2.length := by omega
      subst hk'
      have e14 : G.1 52 14 = R.2.length := (hf 52 14 rfl).1.trans g14
      have e8 : G.1 52 8 = T := ((hf 52 8 rfl).1.trans (g52 8 (by omega) (by omega) (by omega))).trans hT
      refine zrun_sound t_X9_tide C E [] 60 _ _ _ _ ?_
      refine And.intro (by omega) (And.intro (show inR (G.1 52 14) by omega) (And.intro (fun _ => ?_) (fun z => absurd (show G.1 52 14 ≤ (R.2.length : Int) by omega) z)))
      refine ⟨_, rfl, Or.inr (Or.inr ⟨hlt, by rw [hR]; exact hok, ?_, ?_⟩)⟩
      · rw [hT, hR, tnat]
        refine ⟨fun c c1 c2 c3 c4 c5 c6 => ?_, fun c q => ?_, ?_, fun i i7 i8 i14 i15 => ?_, ?_, ⟨fun i => ?_, fun i => ?_, fun i => ?_⟩⟩
        · rw [setI_ne c1]
          exact (funext fun i => (hf c i (by simp [frTk]; omega)).1 : G.1 c = G0.1 c).trans (g1 c c1 c2 c5 c6)
        · exact (funext fun i => (hf c i (by simp [tpB] at q; simp [frTk]; omega)).2 : G.2 c = G0.2 c).trans (g2 c q)
        · rw [setI_n2 (by omega)]
          exact (hf 52 7 rfl).1.trans g7
        · rw [setI_n2 i8]
          exact (hf 52 i rfl).1.trans (g52 i i7 i14 i15)
        · show G.1 52 8 + 1 = _
          omega
        · rw [setI_ne (by omega)]
          exact (hf 58 i rfl).1.trans (g58 i)
        · rw [setI_ne (by omega)]
          exact h59 i
        · rw [setI_ne (by omega)]
          exact h60 i
      · show G.1 52 8 + 1 - 1 = _
        omega
    | succ f ih =>
      intro k G hk hf h59 h60
      have e14 : G.1 52 14 = R.2.length := (hf 52 14 rfl).1.trans g14
      have e8 : G.1 52 8 = T := ((hf 52 8 rfl).1.trans (g52 8 (by omega) (by omega) (by omega))).trans hT
      have p0 : (0 : Int) ≤ (k : Int) := by omega
      have p1 : (k : Int) < 12 := by omega
      have q0 : 0 ≤ 12 * G.1 52 8 + (k : Int) := by omega
      have q1 : 12 * G.1 52 8 + (k : Int) < 120 := by omega
      have et : (12 * G.1 52 8 + (k : Int)).toNat = 12 * T + k := by omega
      have e61 : G.1 61 ((k : Int)).toNat = (R.2.getD k (0, 0)).1 := ((hf 61 k rfl).1).trans (g61 k (by omega)).1
      have e62 : G.1 62 ((k : Int)).toNat = (R.2.getD k (0, 0)).2 := ((hf 62 k rfl).1).trans (g61 k (by omega)).2
      refine zrun_sound t_X9_tide C E [49] 80 _ _ _ _ ?_
      refine And.intro (by omega) (And.intro (show inR (G.1 52 14) by omega) (And.intro (fun z => absurd (show G.1 52 14 ≤ (k : Int) from z) (by omega)) (fun _ => ?_)))
      refine And.intro p0 (And.intro p1 (And.intro q0 (And.intro q1 (And.intro p0 (And.intro p1 (And.intro q0 (And.intro q1 ?_)))))))
      have nx := ih (k + 1) (setI (setI G 59 (12 * G.1 52 8 + (k : Int)).toNat (G.1 61 ((k : Int)).toNat)) 60 (12 * G.1 52 8 + (k : Int)).toNat (G.1 62 ((k : Int)).toNat)) (by omega) (fr_setI (fr_setI hf rfl) rfl) (fun i => ?_) (fun i => ?_)
      · exact zJ_le nx (And.intro rfl (And.intro rfl (And.intro rfl trivial))) rfl rfl
      · rw [setI_ne (by omega), setI_at, h59 i, et, e61]
        by_cases e : i = 12 * T + k
        · rw [if_pos ⟨rfl, e⟩, if_pos (by omega), show i - 12 * T = k by omega]
        · rw [if_neg (fun y => e y.2)]
          by_cases q : 12 * T ≤ i ∧ i < 12 * T + k
          · rw [if_pos q, if_pos (by omega)]
          · rw [if_neg q, if_neg (by omega)]
      · rw [setI_at, setI_ne (by omega), h60 i, et, e62]
        by_cases e : i = 12 * T + k
        · rw [if_pos ⟨rfl, e⟩, if_pos (by omega), show i - 12 * T = k by omega]
        · rw [if_neg (fun y => e y.2)]
          by_cases q : 12 * T ≤ i ∧ i < 12 * T + k
          · rw [if_pos q, if_pos (by omega)]
          · rw [if_neg q, if_neg (by omega)]
  refine zrun_sound t_X9_tide C E [49] 80 _ _ _ _ ?_
  refine And.intro i0 (And.intro (by decide) (And.intro (fun z => ?_) (fun z => ?_)))
  · replace z : h.1 52 8 ≠ 10 := z
    refine zcall_i (d' := d - 1) (by omega) rd ?_
    rintro o g ⟨hf, hb, g14, gv⟩
    have gc : ∀ c, c ≠ 52 → c ≠ 61 → c ≠ 62 → g.1 c = h.1 c := fun c c1 c2 c3 => funext fun i => (hf c i (by simp [frTm]; omega)).1
    have g2 : ∀ c, tpB c = false → g.2 c = h.2 c := fun c q => funext fun i => (hf c i (by simp [tpB] at q; simp [frTm]; omega)).2
    have g52 : ∀ i, i ≠ 14 → i ≠ 15 → g.1 52 i = h.1 52 i := fun i a b => (hf 52 i (by simp [frTm]; omega)).1
    rcases hb with ⟨e1, rfl⟩ | ⟨e1, rfl, e15⟩
    · have g8 : (setI g 52 7 0).1 52 8 = T := by rw [setI_n2 (by omega), g52 8 (by omega) (by omega)]; exact hT
      have b0 : 0 ≤ (setI g 52 7 0).1 52 8 := by omega
      have b1 : (setI g 52 7 0).1 52 8 < 10 := by omega
      refine And.intro (by decide) (And.intro (fun _ => ?_) (fun y => absurd y (by decide)))
      refine And.intro b0 (And.intro b1 ?_)
      refine zJ_le (copy 1 (by omega) e1 (setI (setI g 52 7 0) 58 ((setI g 52 7 0).1 52 8).toNat (g.1 52 14)) (fun c c1 c2 c3 c4 => ?_) g2 ?_ (fun i i7 i14 i15 => ?_) (fun i => ?_) g14 gv R.2.length 0 _ (by omega) (fr_rfl _ _) (fun i => ?_) (fun i => ?_)) (And.intro rfl (And.intro rfl (And.intro rfl trivial))) rfl rfl
      · rw [setI_ne c2, setI_ne c1]
        exact gc c c1 c3 c4
      · rw [setI_ne (by omega), setI_eq]
      · rw [setI_ne (by omega), setI_n2 i7]
        exact g52 i i14 i15
      · rw [setI_at, g8, tnat, setI_ne (by omega), gc 58 (by omega) (by omega) (by omega), g14]
        by_cases e : i = T
        · rw [if_pos e]
          exact if_pos ⟨rfl, e⟩
        · rw [if_neg e]
          exact if_neg (fun y => e y.2)
      · rw [if_neg (by omega), setI_ne (by omega), setI_ne (by omega), gc 59 (by omega) (by omega) (by omega)]
      · rw [if_neg (by omega), setI_ne (by omega), setI_ne (by omega), gc 60 (by omega) (by omega) (by omega)]
    · refine And.intro (by decide) (And.intro (fun y => absurd rfl y) (fun _ => ?_))
      refine ⟨_, rfl, Or.inr (Or.inl ⟨by omega, by rw [hR]; exact e1, ⟨fun c c1 c2 c3 => ?_, g2, rfl, fun i i7 i14 i15 => ?_⟩, ?_⟩)⟩
      · rw [setI_ne c1, gc c c1 c2 c3]
      · rw [setI_n2 i7, g52 i i14 i15]
      · rw [hR]
        show -100 - g.1 52 15 = _
        rw [e15]
  · replace z : h.1 52 8 = 10 := z
    exact ⟨_, rfl, Or.inl ⟨z, rfl, rfl⟩⟩
