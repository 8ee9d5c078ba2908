/-! ===== the law: its script, its table ===== -/
/-- the law's script: a cell outside the world -/
def zScr (X : zX) (L : Nat) (sc : Nat → Int32) : Prop := va_X (xA X 99) L sc (xs X) (xs X).heap ∧ xA X 99 < (xs X).heap.size ∧ ¬ xF X (xA X 99) ∧ L ≤ 3072
def zSX (X : zX) (k : zM) (pc : Nat) (o : zO) : Prop := ∀ (d : Nat) (Q : zQ), zCx X d k → zEx X k Q → ∀ (K : zK), (∀ pc' lv' st' h', K pc' lv' st' h' → zJ X pc' lv' st' h') → ∀ (lv : List (Option zV)) (st : List zV) (h : zH), o d Q lv st h K → zJ X pc lv st h
theorem zSX_of {X : zX} {k : zM} {pc : Nat} {o : zO} (hs : zS k pc o) : zSX X k pc o := fun d Q => hs X d Q
def o_slen (L n : Nat) : zO := fun _ _ lv st h K => match st with
  | .inr (.inr (some 99)) :: r => K n lv (sI (L : Int) :: r) h
  | _ => False
theorem s_slen {X : zX} {k : zM} {pc n L : Nat} {sc : Nat → Int32} (S : zScr X L sc) (hd : decode k.2.1 pc = .ok (.arraylength, 1)) (hn : pc + 1 = n) : zSX X k pc (o_slen L n) := by
  intro d Q Z E K hK lv st h hk
  subst hn
  unfold o_slen at hk
  split at hk
  · intro H locs ls hP hD hS hl
    refine va_slen Z.1 Z.2.1 S.1 S.2.1 S.2.2.1 hS hd ?_
    rw [i32_ofNat]
    exact hK _ _ _ _ hk H locs ls hP hD hS hl
  · exact hk.elim
def o_sld (L : Nat) (sc : Nat → Int32) (n : Nat) : zO := fun _ _ lv st h K => match st with
  | .inl i :: .inr (.inr (some 99)) :: r => 0 ≤ i ∧ i < (L : Int) ∧ K n lv (sI (sc i.toNat).toInt :: r) h
  | _ => False
theorem s_sld {X : zX} {k : zM} {pc n L : Nat} {sc : Nat → Int32} (S : zScr X L sc) (hd : decode k.2.1 pc = .ok (.iaload, 1)) (hn : pc + 1 = n) : zSX X k pc (o_sld L sc n) := by
  intro d Q Z E K hK lv st h hk
  subst hn
  unfold o_sld at hk
  split at hk
  · rename_i i r
    obtain ⟨h0, h1, hk⟩ := hk
    intro H locs ls hP hD hS hl
    have hL := S.2.2.2
    refine va_sld Z.1 Z.2.1 S.1 S.2.1 S.2.2.1 hS (i32_in' h0 h1 (by omega)) hd ?_
    rw [i32_nat h0 (by omega), ← i32_of (sc i.toNat)]
    exact hK _ _ _ _ hk H locs ls hP hD hS hl
  · exact hk.elim
def o_same (t : Nat) : zO := fun _ _ lv st h K => match st with
  | .inl y :: .inl x :: r => x = y ∧ K t lv r h
  | _ => False
theorem s_same {X : zX} {k : zM} {pc : Nat} {off : Int} {t : Nat} (hd : decode k.2.1 pc = .ok (.if_icmp .eq off, 3)) (ht : (pc : Int) + off = (t : Int)) : zSX X k pc (o_same t) := by
  intro d Q C E K hK lv st h hk
  unfold o_same at hk
  split at hk
  · rename_i y x r
    obtain ⟨rfl, hk⟩ := hk
    intro H locs ls hP hD hS hl
    exact lv_icmp_eq C.1 C.2.1 hd ht (fun _ => hK _ _ _ _ hk H locs ls hP hD hS hl) (fun q => absurd rfl q)
  · exact hk.elim
theorem zrunX {k : zM} {X : zX} {T : List (Nat × zO)} (hT : ∀ q ∈ T, zSX X k q.1 q.2) {d : Nat} {Q : zQ} (C : zCx X d k) (E : zEx X k Q) (cut : List Nat) : ∀ (m pc : Nat) (lv : List (Option zV)) (st : List zV) (h : zH), zrun T cut d Q (zJ X) m pc lv st h → zJ X pc lv st h
  | 0, _, _, _, _, hk => hk
  | m + 1, pc, lv, st, h, hk => by
    unfold zrun at hk
    split at hk
    · exact hk
    · rename_i o ho
      have hm : ∃ q ∈ T, q.1 = pc ∧ q.2 = o := by
        clear hk hT
        induction T with
        | nil => simp at ho
        | cons a T ih =>
          obtain ⟨b, o'⟩ := a
          rw [List.lookup_cons] at ho
          by_cases hb : pc = b
          · subst hb
            simp at ho
            exact ⟨(pc, o'), List.mem_cons_self, rfl, ho⟩
          · have : (pc == b) = false := by simpa using hb
            rw [this] at ho
            obtain ⟨q, h1, h2⟩ := ih ho
            exact ⟨q, List.mem_cons_of_mem _ h1, h2⟩
      obtain ⟨q, hq, rfl, rfl⟩ := hm
      refine hT q hq d Q C E _ (fun pc' lv' st' h' hk' => ?_) lv st h hk
      split at hk'
      · exact hk'
      · exact zrunX hT C E cut m pc' lv' st' h' hk'
def k_L_law : zM := (yL_law, cL_law, 4, some .boolean)
