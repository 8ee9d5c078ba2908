section OPSH
variable {k : zM} {pc n : Nat}
theorem SHP_0 {a ci : Nat} {ks : List (Nat × Nat)} (h : SHP a = (0, ci, ks)) : a < NC := SHP_lt (by rw [h]; show (0 : Nat) ≠ 9; decide)
theorem cell_0 {T : Nat → ClassId} {A : Nat → Nat} {h : zH} {a ci : Nat} {ks : List (Nat × Nat)} (e : SHP a = (0, ci, ks)) : (wld T A h)[a]? = some (A a, .inr (ci, ks.mapIdx (fun i q => kV A h a i q))) := by
  rw [wld_at (SHP_0 e), e]
  rfl
theorem cell_1 {T : Nat → ClassId} {A : Nat → Nat} {h : zH} {a len : Nat} {ks : List (Nat × Nat)} (e : SHP a = (1, len, ks)) : (wld T A h)[a]? = some (A a, .inl (T 0, len, .inl (fun j => i32 (h.1 a j)))) := by
  rw [wld_at (SHP_lt (by rw [e]; show (1 : Nat) ≠ 9; decide)), e]
  rfl
theorem cell_2 {T : Nat → ClassId} {A : Nat → Nat} {h : zH} {a len : Nat} {ks : List (Nat × Nat)} (e : SHP a = (2, len, ks)) : (wld T A h)[a]? = some (A a, .inl (T 1, len, .inr (.inl (h.2 a)))) := by
  rw [wld_at (SHP_lt (by rw [e]; show (2 : Nat) ≠ 9; decide)), e]
  rfl
theorem cell_3 {T : Nat → ClassId} {A : Nat → Nat} {h : zH} {a len : Nat} {ks : List (Nat × Nat)} (e : SHP a = (3, len, ks)) : (wld T A h)[a]? = some (A a, .inl (T 2, len, .inl (fun j => i32 (h.1 a j)))) := by
  rw [wld_at (SHP_lt (by rw [e]; show (3 : Nat) ≠ 9; decide)), e]
  rfl
theorem cell_4 {T : Nat → ClassId} {A : Nat → Nat} {h : zH} {a len : Nat} {ks : List (Nat × Nat)} (e : SHP a = (4, len, ks)) : (wld T A h)[a]? = some (A a, .inl (T 3, len, .inr (.inr (.inr (.inr (fun j => some (A (ks.getD j (2, 0)).2))))))) := by
  rw [wld_at (SHP_lt (by rw [e]; show (4 : Nat) ≠ 9; decide)), e]
  rfl
def o_getf (n ci s : Nat) : zO := fun _ _ lv st h K => match st with
  | .inr (.inr (some a)) :: r => match SHP a with
    | (0, c, ks) => match Nat.beq c ci, ks[s]? with
      | true, some (0, _) => K n lv (sI (h.1 a s) :: r) h
      | true, some (1, _) => K n lv (sL (h.2 a s) :: r) h
      | true, some (2, j) => K n lv (sR j :: r) h
      | _, _ => False
    | _ => False
  | _ => False
set_option maxHeartbeats 2000000 in
theorem s_getf {ci s idx N : Nat} {C : String} {T : u_T} (hc : vwCl[ci]? = some (C, T, N)) (hin : ∀ w ∈ u_ws C T N, w ∈ BIG) (hs : s < N) (hl : Cond.fieldLink k.1.cls idx (T s).1 (T s).2.1 (T s).2.2.1 ∈ BIG) (hd : decode k.2.1 pc = .ok (.getfield idx, 3)) (hn : pc + 3 = n) : zS k pc (o_getf n ci s) := by
  intro X d Q Z E K hK lv st h hk
  subst hn
  unfold o_getf at hk
  split at hk
  · rename_i a r
    split at hk
    · rename_i c ks hsh
      have key : ∀ q v, ks[s]? = some q → c = ci → kV (xA X) h a s q = cvV (xA X) v → K (pc + 3) lv (v :: r) h → zJ X pc lv (.inr (.inr (some a)) :: r) h := by
        intro q v hq hci hv hk9 H locs ls hP hD hS hl2
        subst hci
        refine va_get (v := cvV (xA X) v) Z.1 Z.2.1 Z.2.2.2.2.1 hin Z.2.2.2.1 Z.2.2.2.2.2.1 hP a (cell_0 hsh) hc s hs (Z.2.2.2.2.1 _ hl) (fun _ h9 => h9) ?_ hd ?_
        · rw [List.getElem?_mapIdx, hq, ← hv]
          rfl
        · exact hK _ _ _ _ hk9 H locs ls hP hD hS hl2
      split at hk
      · rename_i h1 h2
        exact key _ _ h2 (Nat.eq_of_beq_eq_true h1) rfl hk
      · rename_i h1 h2
        exact key _ _ h2 (Nat.eq_of_beq_eq_true h1) rfl hk
      · rename_i h1 h2
        exact key _ _ h2 (Nat.eq_of_beq_eq_true h1) rfl hk
      · exact hk.elim
    · exact hk.elim
  · exact hk.elim
theorem cell_0I {A : Nat → Nat} {h : zH} {a s : Nat} {x : Int} {ks : List (Nat × Nat)} {q : Nat} (hq : ks[s]? = some (0, q)) : (ks.mapIdx (fun i q => kV A h a i q)).set s (.int (i32 x)) = ks.mapIdx (fun i q => kV A (setI h a s x) a i q) := by
  refine mapIdx_set _ _ _ _ _ (fun j b hj => ?_) (fun b hb => ?_)
  · unfold kV setI
    simp only [hj, and_false, if_false]
  · rw [hq] at hb
    cases hb
    unfold kV setI
    simp
theorem cell_0L {A : Nat → Nat} {h : zH} {a s : Nat} {x : Int64} {ks : List (Nat × Nat)} {q : Nat} (hq : ks[s]? = some (1, q)) : (ks.mapIdx (fun i q => kV A h a i q)).set s (.long x) = ks.mapIdx (fun i q => kV A (setL h a s x) a i q) := by
  refine mapIdx_set _ _ _ _ _ (fun j b hj => ?_) (fun b hb => ?_)
  · unfold kV setL
    simp only [hj, and_false, if_false]
  · rw [hq] at hb
    cases hb
    unfold kV setL
    simp
theorem setI_o {h : zH} {a i : Nat} {x : Int} : ∀ c', c' ≠ a → (setI h a i x).1 c' = h.1 c' ∧ (setI h a i x).2 c' = h.2 c' := fun c' hc => ⟨by funext j; simp [setI, hc], rfl⟩
theorem setL_o {h : zH} {a i : Nat} {x : Int64} : ∀ c', c' ≠ a → (setL h a i x).1 c' = h.1 c' ∧ (setL h a i x).2 c' = h.2 c' := fun c' hc => ⟨rfl, by funext j; simp [setL, hc]⟩
theorem cpI_o {h : zH} {a sp b dp m : Nat} : ∀ c', c' ≠ b → (cpI h a sp b dp m).1 c' = h.1 c' ∧ (cpI h a sp b dp m).2 c' = h.2 c' := fun c' hc => ⟨by funext j; simp [cpI, hc], rfl⟩
theorem cpL_o {h : zH} {a sp b dp m : Nat} : ∀ c', c' ≠ b → (cpL h a sp b dp m).1 c' = h.1 c' ∧ (cpL h a sp b dp m).2 c' = h.2 c' := fun c' hc => ⟨rfl, by funext j; simp [cpL, hc]⟩
/-- the new world behind one changed cell -/
theorem wld_new {T : Nat → ClassId} {A : Nat → Nat} {h h' : zH} {c : Nat} {e : va_E} (he : e = cellE T A h' c (SHP c)) (ho : ∀ c', c' ≠ c → h'.1 c' = h.1 c' ∧ h'.2 c' = h.2 c') : (wld T A h).set c (A c, e) = wld T A h' := by
  rw [he]
  exact wld_set ho
def o_putf (n ci s : Nat) : zO := fun _ _ lv st h K => match st with
  | .inl x :: .inr (.inr (some a)) :: r => match SHP a with
    | (0, c, ks) => match Nat.beq c ci, ks[s]? with
      | true, some (0, _) => K n lv r (setI h a s x)
      | _, _ => False
    | _ => False
  | .inr (.inl x) :: .inr (.inr (some a)) :: r => match SHP a with
    | (0, c, ks) => match Nat.beq c ci, ks[s]? with
      | true, some (1, _) => K n lv r (setL h a s x)
      | _, _ => False
    | _ => False
  | _ => False
set_option maxHeartbeats 2000000 in
theorem s_putf {ci s idx N : Nat} {C : String} {T : u_T} {ty0 : Nat → FieldType} {ty : FieldType} (hc : vwCl[ci]? = some (C, T, N)) (hin : ∀ w ∈ u_ws C T N, w ∈ BIG) (hty : ∀ k, k < N → parseFieldDescriptor (T k).2.2.1 = some (ty0 k)) (hnm : ∀ a, a < N → ∀ b, b < N → a ≠ b → (T a).2.1 ≠ (T b).2.1) (hs : s < N) (hfin : (T s).2.2.2 = false) (hty2 : parseFieldDescriptor (T s).2.2.1 = some ty) (hkind : (ty = .int ∧ ∀ a c ks, SHP a = (0, c, ks) → c = ci → ∃ q, ks[s]? = some (0, q)) ∨ (ty = .long ∧ ∀ a c ks, SHP a = (0, c, ks) → c = ci → ∃ q, ks[s]? = some (1, q)))
    (hl : Cond.fieldLink k.1.cls idx (T s).1 (T s).2.1 (T s).2.2.1 ∈ BIG) (hd : decode k.2.1 pc = .ok (.putfield idx, 3)) (hn : pc + 3 = n) : zS k pc (o_putf n ci s) := by
  intro X d Q Z E K hK lv st h hk
  subst hn
  unfold o_putf at hk
  split at hk
  · rename_i x a r
    split at hk
    · rename_i c ks hsh
      split at hk
      · rename_i q h1 h2
        have hci : c = ci := Nat.eq_of_beq_eq_true h1
        have hti : ty = .int := by
          rcases hkind with ⟨g, -⟩ | ⟨-, g⟩
          · exact g
          · obtain ⟨q', g⟩ := g a c ks hsh hci
            rw [h2] at g
            cases g
        subst hci
        subst hti
        intro H locs ls hP hD hS hl2
        refine va_put (v := .int (i32 x)) Z.1 Z.2.1 Z.2.2.2.2.1 hin ty0 hty hnm Z.2.2.2.1 Z.2.2.2.2.2.1 hP hD hS a (cell_0 hsh) hc s hs (Z.2.2.2.2.1 _ hl) (fun _ h9 => h9) hfin hty2 rfl rfl ?_ hd (fun H1 locs1 hP1 hD1 hS1 => ?_)
        · rw [List.length_mapIdx]
          exact (List.getElem?_eq_some_iff.mp h2).1
        · have e : (wld (xT X) (xA X) h).set a (xA X a, .inr (c, (ks.mapIdx (fun i q => kV (xA X) h a i q)).set s (.int (i32 x)))) = wld (xT X) (xA X) (setI h a s x) := wld_new (by rw [cell_0I h2, hsh]; rfl) setI_o
          rw [e] at hP1 hD1
          exact hK _ _ _ _ hk H1 locs1 ls hP1 hD1 hS1 hl2
      · exact hk.elim
    · exact hk.elim
  · rename_i x a r
    split at hk
    · rename_i c ks hsh
      split at hk
      · rename_i q h1 h2
        have hci : c = ci := Nat.eq_of_beq_eq_true h1
        have hti : ty = .long := by
          rcases hkind with ⟨-, g⟩ | ⟨g, -⟩
          · obtain ⟨q', g⟩ := g a c ks hsh hci
            rw [h2] at g
            cases g
          · exact g
        subst hci
        subst hti
        intro H locs ls hP hD hS hl2
        refine va_put (v := .long x) Z.1 Z.2.1 Z.2.2.2.2.1 hin ty0 hty hnm Z.2.2.2.1 Z.2.2.2.2.2.1 hP hD hS a (cell_0 hsh) hc s hs (Z.2.2.2.2.1 _ hl) (fun _ h9 => h9) hfin hty2 rfl rfl ?_ hd (fun H1 locs1 hP1 hD1 hS1 => ?_)
        · rw [List.length_mapIdx]
          exact (List.getElem?_eq_some_iff.mp h2).1
        · have e : (wld (xT X) (xA X) h).set a (xA X a, .inr (c, (ks.mapIdx (fun i q => kV (xA X) h a i q)).set s (.long x))) = wld (xT X) (xA X) (setL h a s x) := wld_new (by rw [cell_0L h2, hsh]; rfl) setL_o
          rw [e] at hP1 hD1
          exact hK _ _ _ _ hk H1 locs1 ls hP1 hD1 hS1 hl2
      · exact hk.elim
    · exact hk.elim
  · exact hk.elim
def o_gets (n a : Nat) : zO := fun _ _ lv st h K => K n lv (sR a :: st) h
theorem s_getsA {idx : Nat} (hl : Cond.fieldLink k.1.cls idx "RoundPoint$Bodies" "ABOVE" "[I" ∈ BIG) (hd : decode k.2.1 pc = .ok (.getstatic idx, 3)) (hn : pc + 3 = n) : zS k pc (o_gets n 90) := by
  intro X d Q Z E K hK lv st h hk H locs ls hP hD hS hl2
  subst hn
  exact va_gets Z.1 Z.2.1 Z.2.2.2.2.2.2.1.1.1 hS Z.2.2.2.1 (Z.2.2.2.2.1 _ hl) (fun _ h9 => h9) hd (hK _ _ _ _ hk H locs ls hP hD hS hl2)
theorem s_getsO {idx : Nat} (hl : Cond.fieldLink k.1.cls idx "RoundPoint$Bodies" "OWN" "[I" ∈ BIG) (hd : decode k.2.1 pc = .ok (.getstatic idx, 3)) (hn : pc + 3 = n) : zS k pc (o_gets n 91) := by
  intro X d Q Z E K hK lv st h hk H locs ls hP hD hS hl2
  subst hn
  exact va_gets Z.1 Z.2.1 Z.2.2.2.2.2.2.1.2.1.1 hS Z.2.2.2.1 (Z.2.2.2.2.1 _ hl) (fun _ h9 => h9) hd (hK _ _ _ _ hk H locs ls hP hD hS hl2)
def o_iald (n : Nat) : zO := fun _ _ lv st h K => match st with
  | .inl j :: .inr (.inr (some a)) :: r => match SHP a with
    | (1, len, _) => 0 ≤ j ∧ j < (len : Int) ∧ K n lv (sI (h.1 a j.toNat) :: r) h
    | _ => False
  | _ => False
theorem s_iald (hd : decode k.2.1 pc = .ok (.iaload, 1)) (hn : pc + 1 = n) : zS k pc (o_iald n) := by
  intro X d Q Z E K hK lv st h hk
  subst hn
  unfold o_iald at hk
  split at hk
  · rename_i j a r
    split at hk
    · rename_i len ks hsh
      obtain ⟨h0, h1, hk⟩ := hk
      have hlen : len < 2147483648 := by have := SHP_len a; rw [hsh] at this; exact this
      intro H locs ls hP hD hS hl
      refine va_iald Z.1 Z.2.1 Z.2.2.2.2.2.1 hP a 0 (cell_1 hsh) rfl (i32_in' h0 h1 hlen) hd ?_
      rw [i32_nat h0 (by omega)]
      exact hK _ _ _ _ hk H locs ls hP hD hS hl
    · exact hk.elim
  · exact hk.elim
/-- a load from one of the two tables -/
def o_tald (n : Nat) : zO := fun _ _ lv st h K => match st with
  | .inl j :: .inr (.inr (some a)) :: r => (a = 90 ∧ 0 ≤ j ∧ j < 7 ∧ K n lv (sI ((ztbl 90).getD j.toNat 0) :: r) h) ∨ (a = 91 ∧ 0 ≤ j ∧ j < 28 ∧ K n lv (sI ((ztbl 91).getD j.toNat 0) :: r) h)
  | _ => False
theorem s_tald (hd : decode k.2.1 pc = .ok (.iaload, 1)) (hn : pc + 1 = n) : zS k pc (o_tald n) := by
  intro X d Q Z E K hK lv st h hk
  subst hn
  unfold o_tald at hk
  split at hk
  · rename_i j a r
    intro H locs ls hP hD hS hl
    rcases hk with ⟨rfl, h0, h1, hk⟩ | ⟨rfl, h0, h1, hk⟩
    · refine va_ti Z.1 Z.2.1 Z.2.2.2.2.2.2.1.1.2 hS (i32_in' h0 h1 (by decide)) (v := .int (i32 ((ztbl 90).getD j.toNat 0))) (by rw [i32_nat h0 (by omega)]) hd ?_
      exact hK _ _ _ _ hk H locs ls hP hD hS hl
    · refine va_ti Z.1 Z.2.1 Z.2.2.2.2.2.2.1.2.1.2 hS (i32_in' h0 h1 (by decide)) (v := .int (i32 ((ztbl 91).getD j.toNat 0))) (by rw [i32_nat h0 (by omega)]) hd ?_
      exact hK _ _ _ _ hk H locs ls hP hD hS hl
  · exact hk.elim
def o_bald (n : Nat) : zO := fun _ _ lv st h K => match st with
  | .inl j :: .inr (.inr (some a)) :: r => match SHP a with
    | (3, len, _) => 0 ≤ j ∧ j < (len : Int) ∧ K n lv (sI (h.1 a j.toNat) :: r) h
    | _ => False
  | _ => False
theorem s_bald (hd : decode k.2.1 pc = .ok (.baload, 1)) (hn : pc + 1 = n) : zS k pc (o_bald n) := by
  intro X d Q Z E K hK lv st h hk
  subst hn
  unfold o_bald at hk
  split at hk
  · rename_i j a r
    split at hk
    · rename_i len ks hsh
      obtain ⟨h0, h1, hk⟩ := hk
      have hlen : len < 2147483648 := by have := SHP_len a; rw [hsh] at this; exact this
      intro H locs ls hP hD hS hl
      refine va_zald Z.1 Z.2.1 Z.2.2.2.2.2.1 hP a 2 (cell_3 hsh) rfl (i32_in' h0 h1 hlen) hd ?_
      rw [i32_nat h0 (by omega)]
      exact hK _ _ _ _ hk H locs ls hP hD hS hl
    · exact hk.elim
  · exact hk.elim
def o_lald (n : Nat) : zO := fun _ _ lv st h K => match st with
  | .inl j :: .inr (.inr (some a)) :: r => match SHP a with
    | (2, len, _) => 0 ≤ j ∧ j < (len : Int) ∧ K n lv (sL (h.2 a j.toNat) :: r) h
    | _ => False
  | _ => False
theorem s_lald (hd : decode k.2.1 pc = .ok (.laload, 1)) (hn : pc + 1 = n) : zS k pc (o_lald n) := by
  intro X d Q Z E K hK lv st h hk
  subst hn
  unfold o_lald at hk
  split at hk
  · rename_i j a r
    split at hk
    · rename_i len ks hsh
      obtain ⟨h0, h1, hk⟩ := hk
      have hlen : len < 2147483648 := by have := SHP_len a; rw [hsh] at this; exact this
      intro H locs ls hP hD hS hl
      refine va_lald Z.1 Z.2.1 Z.2.2.2.2.2.1 hP a 1 (cell_2 hsh) rfl (i32_in' h0 h1 hlen) hd ?_
      rw [i32_nat h0 (by omega)]
      exact hK _ _ _ _ hk H locs ls hP hD hS hl
    · exact hk.elim
  · exact hk.elim
def o_aald (n : Nat) : zO := fun _ _ lv st h K => match st with
  | .inl j :: .inr (.inr (some a)) :: r => match SHP a with
    | (4, len, ks) => 0 ≤ j ∧ j < (len : Int) ∧ K n lv (sR (ks.getD j.toNat (2, 0)).2 :: r) h
    | _ => False
  | _ => False
theorem s_aald (hd : decode k.2.1 pc = .ok (.aaload, 1)) (hn : pc + 1 = n) : zS k pc (o_aald n) := by
  intro X d Q Z E K hK lv st h hk
  subst hn
  unfold o_aald at hk
  split at hk
  · rename_i j a r
    split at hk
    · rename_i len ks hsh
      obtain ⟨h0, h1, hk⟩ := hk
      have hlen : len < 2147483648 := by have := SHP_len a; rw [hsh] at this; exact this
      intro H locs ls hP hD hS hl
      refine va_aldq Z.1 Z.2.1 Z.2.2.2.2.2.1 hP a 3 (cell_4 hsh) rfl (i32_in' h0 h1 hlen) hd ?_
      rw [i32_nat h0 (by omega)]
      exact hK _ _ _ _ hk H locs ls hP hD hS hl
    · exact hk.elim
  · exact hk.elim
def o_iast (n : Nat) : zO := fun _ _ lv st h K => match st with
  | .inl x :: .inl j :: .inr (.inr (some a)) :: r => match SHP a with
    | (1, len, _) => 0 ≤ j ∧ j < (len : Int) ∧ K n lv r (setI h a j.toNat x)
    | _ => False
  | _ => False
theorem s_iast (hd : decode k.2.1 pc = .ok (.iastore, 1)) (hn : pc + 1 = n) : zS k pc (o_iast n) := by
  intro X d Q Z E K hK lv st h hk
  subst hn
  unfold o_iast at hk
  split at hk
  · rename_i x j a r
    split at hk
    · rename_i len ks hsh
      obtain ⟨h0, h1, hk⟩ := hk
      have hlen : len < 2147483648 := by have := SHP_len a; rw [hsh] at this; exact this
      intro H locs ls hP hD hS hl
      refine va_iast Z.1 Z.2.1 Z.2.2.2.2.2.1 hP hD hS a 0 (cell_1 hsh) rfl (i32_in' h0 h1 hlen) hd (fun H1 locs1 hP1 hD1 hS1 => ?_)
      have e : (wld (xT X) (xA X) h).set a (xA X a, .inl (xT X 0, len, .inl (upd (fun j => i32 (h.1 a j)) (i32 j).toNatClampNeg (i32 x)))) = wld (xT X) (xA X) (setI h a j.toNat x) := by
        refine wld_new ?_ setI_o
        rw [hsh, i32_nat h0 (by omega)]
        show Sum.inl _ = Sum.inl _
        congr 4
        funext i
        unfold upd setI
        by_cases hi : i = j.toNat <;> simp [hi]
      rw [e] at hP1 hD1
      exact hK _ _ _ _ hk H1 locs1 ls hP1 hD1 hS1 hl
    · exact hk.elim
  · exact hk.elim
def o_bast (n : Nat) : zO := fun _ _ lv st h K => match st with
  | .inl x :: .inl j :: .inr (.inr (some a)) :: r => match SHP a with
    | (3, len, _) => 0 ≤ j ∧ j < (len : Int) ∧ (x = 0 ∨ x = 1) ∧ K n lv r (setI h a j.toNat x)
    | _ => False
  | _ => False
theorem s_bast (hd : decode k.2.1 pc = .ok (.bastore, 1)) (hn : pc + 1 = n) : zS k pc (o_bast n) := by
  intro X d Q Z E K hK lv st h hk
  subst hn
  unfold o_bast at hk
  split at hk
  · rename_i x j a r
    split at hk
    · rename_i len ks hsh
      obtain ⟨h0, h1, h01, hk⟩ := hk
      have hlen : len < 2147483648 := by have := SHP_len a; rw [hsh] at this; exact this
      intro H locs ls hP hD hS hl
      refine va_zast Z.1 Z.2.1 Z.2.2.2.2.2.1 hP hD hS a 2 (cell_3 hsh) rfl (i32_in' h0 h1 hlen) hd (fun H1 locs1 hP1 hD1 hS1 => ?_)
      have hx : vp_nar .boolean (i32 x) = i32 x := by rcases h01 with rfl | rfl <;> rfl
      rw [hx] at hP1 hD1
      have e : (wld (xT X) (xA X) h).set a (xA X a, .inl (xT X 2, len, .inl (upd (fun j => i32 (h.1 a j)) (i32 j).toNatClampNeg (i32 x)))) = wld (xT X) (xA X) (setI h a j.toNat x) := by
        refine wld_new ?_ setI_o
        rw [hsh, i32_nat h0 (by omega)]
        show Sum.inl _ = Sum.inl _
        congr 4
        funext i
        unfold upd setI
        by_cases hi : i = j.toNat <;> simp [hi]
      rw [e] at hP1 hD1
      exact hK _ _ _ _ hk H1 locs1 ls hP1 hD1 hS1 hl
    · exact hk.elim
  · exact hk.elim
def o_last (n : Nat) : zO := fun _ _ lv st h K => match st with
  | .inr (.inl x) :: .inl j :: .inr (.inr (some a)) :: r => match SHP a with
    | (2, len, _) => 0 ≤ j ∧ j < (len : Int) ∧ K n lv r (setL h a j.toNat x)
    | _ => False
  | _ => False
theorem s_last (hd : decode k.2.1 pc = .ok (.lastore, 1)) (hn : pc + 1 = n) : zS k pc (o_last n) := by
  intro X d Q Z E K hK lv st h hk
  subst hn
  unfold o_last at hk
  split at hk
  · rename_i x j a r
    split at hk
    · rename_i len ks hsh
      obtain ⟨h0, h1, hk⟩ := hk
      have hlen : len < 2147483648 := by have := SHP_len a; rw [hsh] at this; exact this
      intro H locs ls hP hD hS hl
      refine va_last Z.1 Z.2.1 Z.2.2.2.2.2.1 hP hD hS a 1 (cell_2 hsh) rfl (i32_in' h0 h1 hlen) hd (fun H1 locs1 hP1 hD1 hS1 => ?_)
      have e : (wld (xT X) (xA X) h).set a (xA X a, .inl (xT X 1, len, .inr (.inl (vp_updL (h.2 a) (i32 j).toNatClampNeg x)))) = wld (xT X) (xA X) (setL h a j.toNat x) := by
        refine wld_new ?_ setL_o
        rw [hsh, i32_nat h0 (by omega)]
        show Sum.inl _ = Sum.inl _
        congr 5
        funext i
        unfold vp_updL setL
        by_cases hi : i = j.toNat <;> simp [hi]
      rw [e] at hP1 hD1
      exact hK _ _ _ _ hk H1 locs1 ls hP1 hD1 hS1 hl
    · exact hk.elim
  · exact hk.elim
def o_alen (n : Nat) : zO := fun _ _ lv st h K => match st with
  | .inr (.inr (some a)) :: r => match SHP a with
    | (1, len, _) => K n lv (sI (len : Int) :: r) h
    | (2, len, _) => K n lv (sI (len : Int) :: r) h
    | _ => False
  | _ => False
theorem i32_ofNat (m : Nat) : Int32.ofNat m = i32 (m : Int) := (Int32.ofInt_eq_ofNat).symm
theorem s_alen (hd : decode k.2.1 pc = .ok (.arraylength, 1)) (hn : pc + 1 = n) : zS k pc (o_alen n) := by
  intro X d Q Z E K hK lv st h hk
  subst hn
  unfold o_alen at hk
  split at hk
  · rename_i a r
    split at hk
    · rename_i len ks hsh
      intro H locs ls hP hD hS hl
      exact va_alen Z.1 Z.2.1 Z.2.2.2.2.2.1 hP a 0 (cell_1 hsh) rfl (i32_ofNat len) hd (hK _ _ _ _ hk H locs ls hP hD hS hl)
    · rename_i len ks hsh
      intro H locs ls hP hD hS hl
      exact va_alen Z.1 Z.2.1 Z.2.2.2.2.2.1 hP a 1 (cell_2 hsh) rfl (i32_ofNat len) hd (hK _ _ _ _ hk H locs ls hP hD hS hl)
    · exact hk.elim
  · exact hk.elim
end OPSH
