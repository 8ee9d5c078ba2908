/-! ===== the instructions of the small machine, and that each is the machine's own ===== -/
abbrev zK : Type := Nat → List (Option zV) → List zV → zH → Prop
abbrev zO : Type := Nat → zQ → List (Option zV) → List zV → zH → zK → Prop
def zS (k : zM) (pc : Nat) (o : zO) : Prop := ∀ (X : zX) (d : Nat) (Q : zQ), zCx X d k → zEx X k Q → ∀ (K : zK), (∀ pc' lv' st' h', K pc' lv' st' h' → zJ X pc' lv' st' h') → ∀ (lv : List (Option zV)) (st : List zV) (h : zH), o d Q lv st h K → zJ X pc lv st h
section OPS
variable {k : zM} {pc n : Nat}
def o_const (n : Nat) (x : Int) : zO := fun _ _ lv st h K => K n lv (sI x :: st) h
def o_lconst (n : Nat) (y : Int64) : zO := fun _ _ lv st h K => K n lv (sL y :: st) h
theorem s_iconst {z : Int} (hd : decode k.2.1 pc = .ok (.iconst z, 1)) (hn : pc + 1 = n) : zS k pc (o_const n z) := by
  intro X d Q C E K hK lv st h hk H locs ls hP hD hS hl
  subst hn
  exact lv_iconst C.1 C.2.1 hd rfl (hK _ _ _ _ hk H locs ls hP hD hS hl)
theorem s_bipush {z : Int} (hd : decode k.2.1 pc = .ok (.bipush z, 2)) (hv : (Int8.ofInt z).toInt32 = i32 z) (hn : pc + 2 = n) : zS k pc (o_const n z) := by
  intro X d Q C E K hK lv st h hk H locs ls hP hD hS hl
  subst hn
  exact lv_bipush C.1 C.2.1 hd hv (hK _ _ _ _ hk H locs ls hP hD hS hl)
theorem s_sipush {z : Int} (hd : decode k.2.1 pc = .ok (.sipush z, 3)) (hv : (Int16.ofInt z).toInt32 = i32 z) (hn : pc + 3 = n) : zS k pc (o_const n z) := by
  intro X d Q C E K hK lv st h hk H locs ls hP hD hS hl
  subst hn
  exact lv_sipush C.1 C.2.1 hd hv (hK _ _ _ _ hk H locs ls hP hD hS hl)
theorem s_ldc {idx : Nat} {v : Int32} {z : Int} (hd : decode k.2.1 pc = .ok (.ldc idx, 2)) (hw : Cond.constant k.1.cls idx v ∈ BIG) (hv : v = i32 z) (hn : pc + 2 = n) : zS k pc (o_const n z) := by
  intro X d Q C E K hK lv st h hk H locs ls hP hD hS hl
  subst hn
  subst hv
  exact lv_ldc C.1 C.2.1 C.2.2.2.1 (C.2.2.2.2.1 _ hw) hd (hK _ _ _ _ hk H locs ls hP hD hS hl)
theorem s_lconst {z : Fin 2} {y : Int64} (hd : decode k.2.1 pc = .ok (.lconst z, 1)) (hv : Int64.ofNat z = y) (hn : pc + 1 = n) : zS k pc (o_lconst n y) := by
  intro X d Q C E K hK lv st h hk H locs ls hP hD hS hl
  subst hn
  exact lv_lconst C.1 C.2.1 hd hv (hK _ _ _ _ hk H locs ls hP hD hS hl)
theorem s_ldc2 {idx : Nat} {y : Int64} (hd : decode k.2.1 pc = .ok (.ldc2_w idx, 3)) (hw : Cond.constantLong k.1.cls idx y ∈ BIG) (hn : pc + 3 = n) : zS k pc (o_lconst n y) := by
  intro X d Q C E K hK lv st h hk H locs ls hP hD hS hl
  subst hn
  exact lv_ldc2 C.1 C.2.1 C.2.2.2.1 (C.2.2.2.2.1 _ hw) hd (hK _ _ _ _ hk H locs ls hP hD hS hl)
def o_iload (n i : Nat) : zO := fun _ _ lv st h K => match lv[i]? with
  | some (some (.inl x)) => K n lv (sI x :: st) h
  | _ => False
theorem s_iload_n {j : Fin 4} {i : Nat} (hd : decode k.2.1 pc = .ok (.iload_n j, 1)) (hi : (j : Nat) = i) (hn : pc + 1 = n) : zS k pc (o_iload n i) := by
  intro X d Q C E K hK lv st h hk
  subst hn
  unfold o_iload at hk
  split at hk
  · rename_i x hx
    intro H locs ls hP hD hS hl
    exact lv_iload_n C.1 C.2.1 hd hi (hl.2.2 i _ hx) (hK _ _ _ _ hk H locs ls hP hD hS hl)
  · exact hk.elim
theorem s_iload {i : Nat} (hd : decode k.2.1 pc = .ok (.iload i, 2)) (hn : pc + 2 = n) : zS k pc (o_iload n i) := by
  intro X d Q C E K hK lv st h hk
  subst hn
  unfold o_iload at hk
  split at hk
  · rename_i x hx
    intro H locs ls hP hD hS hl
    exact lv_iload C.1 C.2.1 hd (hl.2.2 i _ hx) (hK _ _ _ _ hk H locs ls hP hD hS hl)
  · exact hk.elim
def o_lload (n i : Nat) : zO := fun _ _ lv st h K => match lv[i]? with
  | some (some (.inr (.inl x))) => K n lv (sL x :: st) h
  | _ => False
theorem s_lload_n {j : Fin 4} {i : Nat} (hd : decode k.2.1 pc = .ok (.lload_n j, 1)) (hi : (j : Nat) = i) (hn : pc + 1 = n) : zS k pc (o_lload n i) := by
  intro X d Q C E K hK lv st h hk
  subst hn
  unfold o_lload at hk
  split at hk
  · rename_i x hx
    intro H locs ls hP hD hS hl
    exact lv_lload_n C.1 C.2.1 hd hi (hl.2.2 i _ hx) (hK _ _ _ _ hk H locs ls hP hD hS hl)
  · exact hk.elim
theorem s_lload {i : Nat} (hd : decode k.2.1 pc = .ok (.lload i, 2)) (hn : pc + 2 = n) : zS k pc (o_lload n i) := by
  intro X d Q C E K hK lv st h hk
  subst hn
  unfold o_lload at hk
  split at hk
  · rename_i x hx
    intro H locs ls hP hD hS hl
    exact lv_lload C.1 C.2.1 hd (hl.2.2 i _ hx) (hK _ _ _ _ hk H locs ls hP hD hS hl)
  · exact hk.elim
def o_aload (n i : Nat) : zO := fun _ _ lv st h K => match lv[i]? with
  | some (some (.inr (.inr (some x)))) => K n lv (sR x :: st) h
  | _ => False
theorem s_aload_n {j : Fin 4} {i : Nat} (hd : decode k.2.1 pc = .ok (.aload_n j, 1)) (hi : (j : Nat) = i) (hn : pc + 1 = n) : zS k pc (o_aload n i) := by
  intro X d Q C E K hK lv st h hk
  subst hn
  unfold o_aload at hk
  split at hk
  · rename_i x hx
    intro H locs ls hP hD hS hl
    exact lv_aload_n C.1 C.2.1 hd hi (hl.2.2 i _ hx) (hK _ _ _ _ hk H locs ls hP hD hS hl)
  · exact hk.elim
theorem s_aload {i : Nat} (hd : decode k.2.1 pc = .ok (.aload i, 2)) (hn : pc + 2 = n) : zS k pc (o_aload n i) := by
  intro X d Q C E K hK lv st h hk
  subst hn
  unfold o_aload at hk
  split at hk
  · rename_i x hx
    intro H locs ls hP hD hS hl
    exact lv_aload C.1 C.2.1 hd (hl.2.2 i _ hx) (hK _ _ _ _ hk H locs ls hP hD hS hl)
  · exact hk.elim
def o_istore (n i : Nat) : zO := fun _ _ lv st h K => match st with
  | .inl x :: r => K n (st1 lv i (sI x)) r h
  | _ => False
theorem s_istore_n {j : Fin 4} {i : Nat} (hd : decode k.2.1 pc = .ok (.istore_n j, 1)) (hj : (j : Nat) = i) (hi : i < k.2.2.1) (hn : pc + 1 = n) : zS k pc (o_istore n i) := by
  intro X d Q C E K hK lv st h hk
  subst hn
  unfold o_istore at hk
  split at hk
  · rename_i x r
    intro H locs ls hP hD hS hl
    exact lv_istore_n C.1 C.2.1 hd hj (lvx_has hl) (by rw [C.2.2.1]; exact hi) rfl (fun ls' hl' => hK _ _ _ _ hk H locs ls' hP hD hS (lvx_st1 (v := sI x) hl'))
  · exact hk.elim
theorem s_istore {i : Nat} (hd : decode k.2.1 pc = .ok (.istore i, 2)) (hi : i < k.2.2.1) (hn : pc + 2 = n) : zS k pc (o_istore n i) := by
  intro X d Q C E K hK lv st h hk
  subst hn
  unfold o_istore at hk
  split at hk
  · rename_i x r
    intro H locs ls hP hD hS hl
    exact lv_istore C.1 C.2.1 hd (lvx_has hl) (by rw [C.2.2.1]; exact hi) rfl (fun ls' hl' => hK _ _ _ _ hk H locs ls' hP hD hS (lvx_st1 (v := sI x) hl'))
  · exact hk.elim
def o_lstore (n i : Nat) : zO := fun _ _ lv st h K => match st with
  | .inr (.inl x) :: r => K n (st2 lv i (sL x)) r h
  | _ => False
theorem s_lstore_n {j : Fin 4} {i : Nat} (hd : decode k.2.1 pc = .ok (.lstore_n j, 1)) (hj : (j : Nat) = i) (hi : i + 1 < k.2.2.1) (hn : pc + 1 = n) : zS k pc (o_lstore n i) := by
  intro X d Q C E K hK lv st h hk
  subst hn
  unfold o_lstore at hk
  split at hk
  · rename_i x r
    intro H locs ls hP hD hS hl
    exact lv_lstore_n C.1 C.2.1 hd hj (lvx_has hl) (by rw [C.2.2.1]; exact hi) rfl (fun ls' hl' => hK _ _ _ _ hk H locs ls' hP hD hS (lvx_st2 (v := sL x) hl'))
  · exact hk.elim
theorem s_lstore {i : Nat} (hd : decode k.2.1 pc = .ok (.lstore i, 2)) (hi : i + 1 < k.2.2.1) (hn : pc + 2 = n) : zS k pc (o_lstore n i) := by
  intro X d Q C E K hK lv st h hk
  subst hn
  unfold o_lstore at hk
  split at hk
  · rename_i x r
    intro H locs ls hP hD hS hl
    exact lv_lstore C.1 C.2.1 hd (lvx_has hl) (by rw [C.2.2.1]; exact hi) rfl (fun ls' hl' => hK _ _ _ _ hk H locs ls' hP hD hS (lvx_st2 (v := sL x) hl'))
  · exact hk.elim
def o_astore (n i : Nat) : zO := fun _ _ lv st h K => match st with
  | .inr (.inr (some x)) :: r => K n (st1 lv i (sR x)) r h
  | _ => False
theorem s_astore_n {j : Fin 4} {i : Nat} (hd : decode k.2.1 pc = .ok (.astore_n j, 1)) (hj : (j : Nat) = i) (hi : i < k.2.2.1) (hn : pc + 1 = n) : zS k pc (o_astore n i) := by
  intro X d Q C E K hK lv st h hk
  subst hn
  unfold o_astore at hk
  split at hk
  · rename_i x r
    intro H locs ls hP hD hS hl
    exact lv_astore_n C.1 C.2.1 hd hj (lvx_has hl) (by rw [C.2.2.1]; exact hi) rfl (fun ls' hl' => hK _ _ _ _ hk H locs ls' hP hD hS (lvx_st1 (v := sR x) hl'))
  · exact hk.elim
theorem s_astore {i : Nat} (hd : decode k.2.1 pc = .ok (.astore i, 2)) (hi : i < k.2.2.1) (hn : pc + 2 = n) : zS k pc (o_astore n i) := by
  intro X d Q C E K hK lv st h hk
  subst hn
  unfold o_astore at hk
  split at hk
  · rename_i x r
    intro H locs ls hP hD hS hl
    exact lv_astore C.1 C.2.1 hd (lvx_has hl) (by rw [C.2.2.1]; exact hi) rfl (fun ls' hl' => hK _ _ _ _ hk H locs ls' hP hD hS (lvx_st1 (v := sR x) hl'))
  · exact hk.elim
def o_iinc (n i : Nat) (z : Int) : zO := fun _ _ lv st h K => match lv[i]? with
  | some (some (.inl x)) => K n (st1 lv i (sI (x + z))) st h
  | _ => False
theorem s_iinc {i : Nat} {z : Int} (hd : decode k.2.1 pc = .ok (.iinc i z, 3)) (hi : i < k.2.2.1) (hn : pc + 3 = n) : zS k pc (o_iinc n i z) := by
  intro X d Q C E K hK lv st h hk
  subst hn
  unfold o_iinc at hk
  split at hk
  · rename_i x hx
    intro H locs ls hP hD hS hl
    obtain ⟨j, hj⟩ := List.getElem?_of_mem (lvL_mem (A := xA X) hx)
    exact lv_iinc (v := i32 (x + z)) C.1 C.2.1 hd (lvx_has hl) hj (by rw [i32_add]; rfl) (by rw [C.2.2.1]; exact hi) rfl (fun ls' hl' => hK _ _ _ _ hk H locs ls' hP hD hS (lvx_st1 (v := sI (x + z)) hl'))
  · exact hk.elim
def o_iadd (n : Nat) : zO := fun _ _ lv st h K => match st with
  | .inl y :: .inl x :: r => K n lv (sI (x + y) :: r) h
  | _ => False
theorem s_iadd (hd : decode k.2.1 pc = .ok (.iadd, 1)) (hn : pc + 1 = n) : zS k pc (o_iadd n) := by
  intro X d Q C E K hK lv st h hk
  subst hn
  unfold o_iadd at hk
  split at hk
  · rename_i y x r
    intro H locs ls hP hD hS hl
    refine lv_iadd C.1 C.2.1 hd ?_
    rw [← i32_add]
    exact hK _ _ _ _ hk H locs ls hP hD hS hl
  · exact hk.elim
def o_isub (n : Nat) : zO := fun _ _ lv st h K => match st with
  | .inl y :: .inl x :: r => K n lv (sI (x - y) :: r) h
  | _ => False
theorem s_isub (hd : decode k.2.1 pc = .ok (.isub, 1)) (hn : pc + 1 = n) : zS k pc (o_isub n) := by
  intro X d Q C E K hK lv st h hk
  subst hn
  unfold o_isub at hk
  split at hk
  · rename_i y x r
    intro H locs ls hP hD hS hl
    refine lv_isub C.1 C.2.1 hd ?_
    rw [← i32_sub]
    exact hK _ _ _ _ hk H locs ls hP hD hS hl
  · exact hk.elim
def o_imul (n : Nat) : zO := fun _ _ lv st h K => match st with
  | .inl y :: .inl x :: r => K n lv (sI (x * y) :: r) h
  | _ => False
theorem s_imul (hd : decode k.2.1 pc = .ok (.imul, 1)) (hn : pc + 1 = n) : zS k pc (o_imul n) := by
  intro X d Q C E K hK lv st h hk
  subst hn
  unfold o_imul at hk
  split at hk
  · rename_i y x r
    intro H locs ls hP hD hS hl
    refine lv_imul C.1 C.2.1 hd ?_
    rw [← i32_mul]
    exact hK _ _ _ _ hk H locs ls hP hD hS hl
  · exact hk.elim
def o_idiv (n : Nat) : zO := fun _ _ lv st h K => match st with
  | .inl y :: .inl x :: r => (0 ≤ x ∧ x ≤ 2147483647) ∧ (0 < y ∧ y ≤ 2147483647) ∧ K n lv (sI (x / y) :: r) h
  | _ => False
theorem s_idiv (hd : decode k.2.1 pc = .ok (.idiv, 1)) (hn : pc + 1 = n) : zS k pc (o_idiv n) := by
  intro X d Q C E K hK lv st h hk
  subst hn
  unfold o_idiv at hk
  split at hk
  · rename_i y x r
    intro H locs ls hP hD hS hl
    obtain ⟨h1, h2, hk⟩ := hk
    refine lv_idiv C.1 C.2.1 hd (fun e => ?_) ?_
    · have := (i32_eq (x := y) (y := 0) ⟨by omega, h2.2⟩ inR_0).mp e
      omega
    · rw [i32_div h1 h2]
      exact hK _ _ _ _ hk H locs ls hP hD hS hl
  · exact hk.elim
def o_irem (n : Nat) : zO := fun _ _ lv st h K => match st with
  | .inl y :: .inl x :: r => (0 ≤ x ∧ x ≤ 2147483647) ∧ (0 < y ∧ y ≤ 2147483647) ∧ K n lv (sI (x % y) :: r) h
  | _ => False
theorem s_irem (hd : decode k.2.1 pc = .ok (.irem, 1)) (hn : pc + 1 = n) : zS k pc (o_irem n) := by
  intro X d Q C E K hK lv st h hk
  subst hn
  unfold o_irem at hk
  split at hk
  · rename_i y x r
    intro H locs ls hP hD hS hl
    obtain ⟨h1, h2, hk⟩ := hk
    refine lv_irem C.1 C.2.1 hd (fun e => ?_) ?_
    · have := (i32_eq (x := y) (y := 0) ⟨by omega, h2.2⟩ inR_0).mp e
      omega
    · rw [i32_rem h1 h2]
      exact hK _ _ _ _ hk H locs ls hP hD hS hl
  · exact hk.elim
def and32 (x y : Int) : Int := (i32 x &&& i32 y).toInt
def or32 (x y : Int) : Int := (i32 x ||| i32 y).toInt
def xor32 (x y : Int) : Int := (i32 x ^^^ i32 y).toInt
def shl32 (x y : Int) : Int := (i32 x <<< (i32 y &&& 31)).toInt
def shr32 (x y : Int) : Int := (i32 x >>> (i32 y &&& 31)).toInt
def ushr32 (x y : Int) : Int := ((i32 x).toUInt32 >>> ((i32 y).toUInt32 &&& Int32.toUInt32 31)).toInt32.toInt
def shl64 (x : Int64) (y : Int) : Int64 := x <<< ((i32 y).toInt64 &&& 63)
def ushr64 (x : Int64) (y : Int) : Int64 := (x.toUInt64 >>> ((i32 y).toInt64.toUInt64 &&& Int64.toUInt64 63)).toInt64
def i2l (x : Int) : Int64 := (i32 x).toInt64
def l2i (x : Int64) : Int := x.toInt32.toInt
def i2b (x : Int) : Int := (i32 x).toInt8.toInt32.toInt
def i2s (x : Int) : Int := (i32 x).toInt16.toInt32.toInt
def o_iand (n : Nat) : zO := fun _ _ lv st h K => match st with
  | .inl y :: .inl x :: r => K n lv (sI (and32 x y) :: r) h
  | _ => False
theorem s_iand (hd : decode k.2.1 pc = .ok (.iand, 1)) (hn : pc + 1 = n) : zS k pc (o_iand n) := by
  intro X d Q C E K hK lv st h hk
  subst hn
  unfold o_iand at hk
  split at hk
  · rename_i y x r
    intro H locs ls hP hD hS hl
    refine lv_iand C.1 C.2.1 hd ?_
    rw [show i32 x &&& i32 y = i32 (and32 x y) from (i32_of _).symm]
    exact hK _ _ _ _ hk H locs ls hP hD hS hl
  · exact hk.elim
def o_ior (n : Nat) : zO := fun _ _ lv st h K => match st with
  | .inl y :: .inl x :: r => K n lv (sI (or32 x y) :: r) h
  | _ => False
theorem s_ior (hd : decode k.2.1 pc = .ok (.ior, 1)) (hn : pc + 1 = n) : zS k pc (o_ior n) := by
  intro X d Q C E K hK lv st h hk
  subst hn
  unfold o_ior at hk
  split at hk
  · rename_i y x r
    intro H locs ls hP hD hS hl
    refine lv_ior C.1 C.2.1 hd ?_
    rw [show i32 x ||| i32 y = i32 (or32 x y) from (i32_of _).symm]
    exact hK _ _ _ _ hk H locs ls hP hD hS hl
  · exact hk.elim
def o_ixor (n : Nat) : zO := fun _ _ lv st h K => match st with
  | .inl y :: .inl x :: r => K n lv (sI (xor32 x y) :: r) h
  | _ => False
theorem s_ixor (hd : decode k.2.1 pc = .ok (.ixor, 1)) (hn : pc + 1 = n) : zS k pc (o_ixor n) := by
  intro X d Q C E K hK lv st h hk
  subst hn
  unfold o_ixor at hk
  split at hk
  · rename_i y x r
    intro H locs ls hP hD hS hl
    refine lv_ixor C.1 C.2.1 hd ?_
    rw [show i32 x ^^^ i32 y = i32 (xor32 x y) from (i32_of _).symm]
    exact hK _ _ _ _ hk H locs ls hP hD hS hl
  · exact hk.elim
def o_ishl (n : Nat) : zO := fun _ _ lv st h K => match st with
  | .inl y :: .inl x :: r => K n lv (sI (shl32 x y) :: r) h
  | _ => False
theorem s_ishl (hd : decode k.2.1 pc = .ok (.ishl, 1)) (hn : pc + 1 = n) : zS k pc (o_ishl n) := by
  intro X d Q C E K hK lv st h hk
  subst hn
  unfold o_ishl at hk
  split at hk
  · rename_i y x r
    intro H locs ls hP hD hS hl
    refine lv_ishl C.1 C.2.1 hd ?_
    rw [show i32 x <<< (i32 y &&& 31) = i32 (shl32 x y) from (i32_of _).symm]
    exact hK _ _ _ _ hk H locs ls hP hD hS hl
  · exact hk.elim
def o_ishr (n : Nat) : zO := fun _ _ lv st h K => match st with
  | .inl y :: .inl x :: r => K n lv (sI (shr32 x y) :: r) h
  | _ => False
theorem s_ishr (hd : decode k.2.1 pc = .ok (.ishr, 1)) (hn : pc + 1 = n) : zS k pc (o_ishr n) := by
  intro X d Q C E K hK lv st h hk
  subst hn
  unfold o_ishr at hk
  split at hk
  · rename_i y x r
    intro H locs ls hP hD hS hl
    refine lv_ishr C.1 C.2.1 hd ?_
    rw [show i32 x >>> (i32 y &&& 31) = i32 (shr32 x y) from (i32_of _).symm]
    exact hK _ _ _ _ hk H locs ls hP hD hS hl
  · exact hk.elim
def o_iushr (n : Nat) : zO := fun _ _ lv st h K => match st with
  | .inl y :: .inl x :: r => K n lv (sI (ushr32 x y) :: r) h
  | _ => False
theorem s_iushr (hd : decode k.2.1 pc = .ok (.iushr, 1)) (hn : pc + 1 = n) : zS k pc (o_iushr n) := by
  intro X d Q C E K hK lv st h hk
  subst hn
  unfold o_iushr at hk
  split at hk
  · rename_i y x r
    intro H locs ls hP hD hS hl
    refine lv_iushr C.1 C.2.1 hd (i32_of _).symm ?_
    exact hK _ _ _ _ hk H locs ls hP hD hS hl
  · exact hk.elim
def o_ineg (n : Nat) : zO := fun _ _ lv st h K => match st with
  | .inl x :: r => K n lv (sI (-x) :: r) h
  | _ => False
theorem s_ineg (hd : decode k.2.1 pc = .ok (.ineg, 1)) (hn : pc + 1 = n) : zS k pc (o_ineg n) := by
  intro X d Q C E K hK lv st h hk
  subst hn
  unfold o_ineg at hk
  split at hk
  · intro H locs ls hP hD hS hl
    refine lv_ineg C.1 C.2.1 hd ?_
    rw [← i32_neg]
    exact hK _ _ _ _ hk H locs ls hP hD hS hl
  · exact hk.elim
def o_i2l (n : Nat) : zO := fun _ _ lv st h K => match st with
  | .inl x :: r => K n lv (sL (i2l x) :: r) h
  | _ => False
theorem s_i2l (hd : decode k.2.1 pc = .ok (.i2l, 1)) (hn : pc + 1 = n) : zS k pc (o_i2l n) := by
  intro X d Q C E K hK lv st h hk
  subst hn
  unfold o_i2l at hk
  split at hk
  · intro H locs ls hP hD hS hl
    exact lv_i2l C.1 C.2.1 hd rfl (hK _ _ _ _ hk H locs ls hP hD hS hl)
  · exact hk.elim
def o_l2i (n : Nat) : zO := fun _ _ lv st h K => match st with
  | .inr (.inl x) :: r => K n lv (sI (l2i x) :: r) h
  | _ => False
theorem s_l2i (hd : decode k.2.1 pc = .ok (.l2i, 1)) (hn : pc + 1 = n) : zS k pc (o_l2i n) := by
  intro X d Q C E K hK lv st h hk
  subst hn
  unfold o_l2i at hk
  split at hk
  · intro H locs ls hP hD hS hl
    exact lv_l2i C.1 C.2.1 hd (i32_of _).symm (hK _ _ _ _ hk H locs ls hP hD hS hl)
  · exact hk.elim
def o_i2b (n : Nat) : zO := fun _ _ lv st h K => match st with
  | .inl x :: r => K n lv (sI (i2b x) :: r) h
  | _ => False
theorem s_i2b (hd : decode k.2.1 pc = .ok (.i2b, 1)) (hn : pc + 1 = n) : zS k pc (o_i2b n) := by
  intro X d Q C E K hK lv st h hk
  subst hn
  unfold o_i2b at hk
  split at hk
  · intro H locs ls hP hD hS hl
    exact lv_i2b C.1 C.2.1 hd (i32_of _).symm (hK _ _ _ _ hk H locs ls hP hD hS hl)
  · exact hk.elim
def o_i2s (n : Nat) : zO := fun _ _ lv st h K => match st with
  | .inl x :: r => K n lv (sI (i2s x) :: r) h
  | _ => False
theorem s_i2s (hd : decode k.2.1 pc = .ok (.i2s, 1)) (hn : pc + 1 = n) : zS k pc (o_i2s n) := by
  intro X d Q C E K hK lv st h hk
  subst hn
  unfold o_i2s at hk
  split at hk
  · intro H locs ls hP hD hS hl
    exact lv_i2s C.1 C.2.1 hd (i32_of _).symm (hK _ _ _ _ hk H locs ls hP hD hS hl)
  · exact hk.elim
def o_land (n : Nat) : zO := fun _ _ lv st h K => match st with
  | .inr (.inl y) :: .inr (.inl x) :: r => K n lv (sL (x &&& y) :: r) h
  | _ => False
theorem s_land (hd : decode k.2.1 pc = .ok (.land, 1)) (hn : pc + 1 = n) : zS k pc (o_land n) := by
  intro X d Q C E K hK lv st h hk
  subst hn
  unfold o_land at hk
  split at hk
  · intro H locs ls hP hD hS hl
    exact lv_land C.1 C.2.1 hd (hK _ _ _ _ hk H locs ls hP hD hS hl)
  · exact hk.elim
def o_lor (n : Nat) : zO := fun _ _ lv st h K => match st with
  | .inr (.inl y) :: .inr (.inl x) :: r => K n lv (sL (x ||| y) :: r) h
  | _ => False
theorem s_lor (hd : decode k.2.1 pc = .ok (.lor, 1)) (hn : pc + 1 = n) : zS k pc (o_lor n) := by
  intro X d Q C E K hK lv st h hk
  subst hn
  unfold o_lor at hk
  split at hk
  · intro H locs ls hP hD hS hl
    exact lv_lor C.1 C.2.1 hd (hK _ _ _ _ hk H locs ls hP hD hS hl)
  · exact hk.elim
def o_lxor (n : Nat) : zO := fun _ _ lv st h K => match st with
  | .inr (.inl y) :: .inr (.inl x) :: r => K n lv (sL (x ^^^ y) :: r) h
  | _ => False
theorem s_lxor (hd : decode k.2.1 pc = .ok (.lxor, 1)) (hn : pc + 1 = n) : zS k pc (o_lxor n) := by
  intro X d Q C E K hK lv st h hk
  subst hn
  unfold o_lxor at hk
  split at hk
  · intro H locs ls hP hD hS hl
    exact lv_lxor C.1 C.2.1 hd (hK _ _ _ _ hk H locs ls hP hD hS hl)
  · exact hk.elim
def o_lshl (n : Nat) : zO := fun _ _ lv st h K => match st with
  | .inl y :: .inr (.inl x) :: r => K n lv (sL (shl64 x y) :: r) h
  | _ => False
theorem s_lshl (hd : decode k.2.1 pc = .ok (.lshl, 1)) (hn : pc + 1 = n) : zS k pc (o_lshl n) := by
  intro X d Q C E K hK lv st h hk
  subst hn
  unfold o_lshl at hk
  split at hk
  · intro H locs ls hP hD hS hl
    exact lv_lshl C.1 C.2.1 hd rfl (hK _ _ _ _ hk H locs ls hP hD hS hl)
  · exact hk.elim
def o_lushr (n : Nat) : zO := fun _ _ lv st h K => match st with
  | .inl y :: .inr (.inl x) :: r => K n lv (sL (ushr64 x y) :: r) h
  | _ => False
theorem s_lushr (hd : decode k.2.1 pc = .ok (.lushr, 1)) (hn : pc + 1 = n) : zS k pc (o_lushr n) := by
  intro X d Q C E K hK lv st h hk
  subst hn
  unfold o_lushr at hk
  split at hk
  · intro H locs ls hP hD hS hl
    exact lv_lushr C.1 C.2.1 hd rfl (hK _ _ _ _ hk H locs ls hP hD hS hl)
  · exact hk.elim
def o_lcmp (n : Nat) : zO := fun _ _ lv st h K => match st with
  | .inr (.inl y) :: .inr (.inl x) :: r => (x < y → K n lv (sI (-1) :: r) h) ∧ (x = y → K n lv (sI 0 :: r) h) ∧ (y < x → K n lv (sI 1 :: r) h)
  | _ => False
theorem s_lcmp (hd : decode k.2.1 pc = .ok (.lcmp, 1)) (hn : pc + 1 = n) : zS k pc (o_lcmp n) := by
  intro X d Q C E K hK lv st h hk
  subst hn
  unfold o_lcmp at hk
  split at hk
  · rename_i y x r
    intro H locs ls hP hD hS hl
    refine W.lcmp C.1 C.2.1 hd ?_
    unfold lg_cmp
    by_cases h1 : x > y
    · rw [if_pos h1]
      exact hK _ _ _ _ (hk.2.2 h1) H locs ls hP hD hS hl
    · rw [if_neg h1]
      by_cases h2 : x = y
      · rw [if_pos h2]
        exact hK _ _ _ _ (hk.2.1 h2) H locs ls hP hD hS hl
      · rw [if_neg h2]
        exact hK _ _ _ _ (hk.1 (by
          rw [gt_iff_lt, Int64.lt_iff_toInt_lt] at h1
          rw [Int64.lt_iff_toInt_lt]
          rw [← Int64.toInt_inj] at h2
          omega)) H locs ls hP hD hS hl
  · exact hk.elim
def o_icmp_eq (t n : Nat) : zO := fun _ _ lv st h K => match st with
  | .inl y :: .inl x :: r => inR x ∧ inR y ∧ (x = y → K t lv r h) ∧ (¬ (x = y) → K n lv r h)
  | _ => False
theorem s_icmp_eq {off : Int} {t : Nat} (hd : decode k.2.1 pc = .ok (.if_icmp .eq off, 3)) (ht : (pc : Int) + off = (t : Int)) (hn : pc + 3 = n) : zS k pc (o_icmp_eq t n) := by
  intro X d Q C E K hK lv st h hk
  subst hn
  unfold o_icmp_eq at hk
  split at hk
  · rename_i y x r
    intro H locs ls hP hD hS hl
    obtain ⟨hx, hy, k1, k2⟩ := hk
    
    exact lv_icmp_eq C.1 C.2.1 hd ht (fun q => hK _ _ _ _ (k1 ((i32_eq hx hy).mp q)) H locs ls hP hD hS hl) (fun q => hK _ _ _ _ (k2 (fun z => q ((i32_eq hx hy).mpr z))) H locs ls hP hD hS hl)
  · exact hk.elim
def o_if_eq (t n : Nat) : zO := fun _ _ lv st h K => match st with
  | .inl x :: r => inR x ∧ (x = 0 → K t lv r h) ∧ (¬ (x = 0) → K n lv r h)
  | _ => False
theorem s_if_eq {off : Int} {t : Nat} (hd : decode k.2.1 pc = .ok (.ifCond .eq off, 3)) (ht : (pc : Int) + off = (t : Int)) (hn : pc + 3 = n) : zS k pc (o_if_eq t n) := by
  intro X d Q C E K hK lv st h hk
  subst hn
  unfold o_if_eq at hk
  split at hk
  · rename_i x r
    intro H locs ls hP hD hS hl
    obtain ⟨hx, k1, k2⟩ := hk
    have hy := inR_0
    exact lv_if_eq C.1 C.2.1 hd ht (fun q => hK _ _ _ _ (k1 ((i32_eq hx hy).mp q)) H locs ls hP hD hS hl) (fun q => hK _ _ _ _ (k2 (fun z => q ((i32_eq hx hy).mpr z))) H locs ls hP hD hS hl)
  · exact hk.elim
def o_icmp_ne (t n : Nat) : zO := fun _ _ lv st h K => match st with
  | .inl y :: .inl x :: r => inR x ∧ inR y ∧ (¬ x = y → K t lv r h) ∧ (x = y → K n lv r h)
  | _ => False
theorem s_icmp_ne {off : Int} {t : Nat} (hd : decode k.2.1 pc = .ok (.if_icmp .ne off, 3)) (ht : (pc : Int) + off = (t : Int)) (hn : pc + 3 = n) : zS k pc (o_icmp_ne t n) := by
  intro X d Q C E K hK lv st h hk
  subst hn
  unfold o_icmp_ne at hk
  split at hk
  · rename_i y x r
    intro H locs ls hP hD hS hl
    obtain ⟨hx, hy, k1, k2⟩ := hk
    
    exact lv_icmp_ne C.1 C.2.1 hd ht (fun q => hK _ _ _ _ (k1 ((not_congr (i32_eq hx hy)).mp q)) H locs ls hP hD hS hl) (fun q => hK _ _ _ _ (k2 ((i32_eq hx hy).mp q)) H locs ls hP hD hS hl)
  · exact hk.elim
def o_if_ne (t n : Nat) : zO := fun _ _ lv st h K => match st with
  | .inl x :: r => inR x ∧ (¬ x = 0 → K t lv r h) ∧ (x = 0 → K n lv r h)
  | _ => False
theorem s_if_ne {off : Int} {t : Nat} (hd : decode k.2.1 pc = .ok (.ifCond .ne off, 3)) (ht : (pc : Int) + off = (t : Int)) (hn : pc + 3 = n) : zS k pc (o_if_ne t n) := by
  intro X d Q C E K hK lv st h hk
  subst hn
  unfold o_if_ne at hk
  split at hk
  · rename_i x r
    intro H locs ls hP hD hS hl
    obtain ⟨hx, k1, k2⟩ := hk
    have hy := inR_0
    exact lv_if_ne C.1 C.2.1 hd ht (fun q => hK _ _ _ _ (k1 ((not_congr (i32_eq hx hy)).mp q)) H locs ls hP hD hS hl) (fun q => hK _ _ _ _ (k2 ((i32_eq hx hy).mp q)) H locs ls hP hD hS hl)
  · exact hk.elim
def o_icmp_lt (t n : Nat) : zO := fun _ _ lv st h K => match st with
  | .inl y :: .inl x :: r => inR x ∧ inR y ∧ (x < y → K t lv r h) ∧ (¬ (x < y) → K n lv r h)
  | _ => False
theorem s_icmp_lt {off : Int} {t : Nat} (hd : decode k.2.1 pc = .ok (.if_icmp .lt off, 3)) (ht : (pc : Int) + off = (t : Int)) (hn : pc + 3 = n) : zS k pc (o_icmp_lt t n) := by
  intro X d Q C E K hK lv st h hk
  subst hn
  unfold o_icmp_lt at hk
  split at hk
  · rename_i y x r
    intro H locs ls hP hD hS hl
    obtain ⟨hx, hy, k1, k2⟩ := hk
    
    exact lv_icmp_lt C.1 C.2.1 hd ht (fun q => hK _ _ _ _ (k1 ((i32_lt hx hy).mp q)) H locs ls hP hD hS hl) (fun q => hK _ _ _ _ (k2 (fun z => q ((i32_lt hx hy).mpr z))) H locs ls hP hD hS hl)
  · exact hk.elim
def o_if_lt (t n : Nat) : zO := fun _ _ lv st h K => match st with
  | .inl x :: r => inR x ∧ (x < 0 → K t lv r h) ∧ (¬ (x < 0) → K n lv r h)
  | _ => False
theorem s_if_lt {off : Int} {t : Nat} (hd : decode k.2.1 pc = .ok (.ifCond .lt off, 3)) (ht : (pc : Int) + off = (t : Int)) (hn : pc + 3 = n) : zS k pc (o_if_lt t n) := by
  intro X d Q C E K hK lv st h hk
  subst hn
  unfold o_if_lt at hk
  split at hk
  · rename_i x r
    intro H locs ls hP hD hS hl
    obtain ⟨hx, k1, k2⟩ := hk
    have hy := inR_0
    exact lv_if_lt C.1 C.2.1 hd ht (fun q => hK _ _ _ _ (k1 ((i32_lt hx hy).mp q)) H locs ls hP hD hS hl) (fun q => hK _ _ _ _ (k2 (fun z => q ((i32_lt hx hy).mpr z))) H locs ls hP hD hS hl)
  · exact hk.elim
def o_icmp_ge (t n : Nat) : zO := fun _ _ lv st h K => match st with
  | .inl y :: .inl x :: r => inR x ∧ inR y ∧ (y ≤ x → K t lv r h) ∧ (¬ (y ≤ x) → K n lv r h)
  | _ => False
theorem s_icmp_ge {off : Int} {t : Nat} (hd : decode k.2.1 pc = .ok (.if_icmp .ge off, 3)) (ht : (pc : Int) + off = (t : Int)) (hn : pc + 3 = n) : zS k pc (o_icmp_ge t n) := by
  intro X d Q C E K hK lv st h hk
  subst hn
  unfold o_icmp_ge at hk
  split at hk
  · rename_i y x r
    intro H locs ls hP hD hS hl
    obtain ⟨hx, hy, k1, k2⟩ := hk
    
    exact lv_icmp_ge C.1 C.2.1 hd ht (fun q => hK _ _ _ _ (k1 ((i32_le hy hx).mp q)) H locs ls hP hD hS hl) (fun q => hK _ _ _ _ (k2 (fun z => q ((i32_le hy hx).mpr z))) H locs ls hP hD hS hl)
  · exact hk.elim
def o_if_ge (t n : Nat) : zO := fun _ _ lv st h K => match st with
  | .inl x :: r => inR x ∧ (0 ≤ x → K t lv r h) ∧ (¬ (0 ≤ x) → K n lv r h)
  | _ => False
theorem s_if_ge {off : Int} {t : Nat} (hd : decode k.2.1 pc = .ok (.ifCond .ge off, 3)) (ht : (pc : Int) + off = (t : Int)) (hn : pc + 3 = n) : zS k pc (o_if_ge t n) := by
  intro X d Q C E K hK lv st h hk
  subst hn
  unfold o_if_ge at hk
  split at hk
  · rename_i x r
    intro H locs ls hP hD hS hl
    obtain ⟨hx, k1, k2⟩ := hk
    have hy := inR_0
    exact lv_if_ge C.1 C.2.1 hd ht (fun q => hK _ _ _ _ (k1 ((i32_le hy hx).mp q)) H locs ls hP hD hS hl) (fun q => hK _ _ _ _ (k2 (fun z => q ((i32_le hy hx).mpr z))) H locs ls hP hD hS hl)
  · exact hk.elim
def o_icmp_gt (t n : Nat) : zO := fun _ _ lv st h K => match st with
  | .inl y :: .inl x :: r => inR x ∧ inR y ∧ (y < x → K t lv r h) ∧ (¬ (y < x) → K n lv r h)
  | _ => False
theorem s_icmp_gt {off : Int} {t : Nat} (hd : decode k.2.1 pc = .ok (.if_icmp .gt off, 3)) (ht : (pc : Int) + off = (t : Int)) (hn : pc + 3 = n) : zS k pc (o_icmp_gt t n) := by
  intro X d Q C E K hK lv st h hk
  subst hn
  unfold o_icmp_gt at hk
  split at hk
  · rename_i y x r
    intro H locs ls hP hD hS hl
    obtain ⟨hx, hy, k1, k2⟩ := hk
    
    exact lv_icmp_gt C.1 C.2.1 hd ht (fun q => hK _ _ _ _ (k1 ((i32_lt hy hx).mp q)) H locs ls hP hD hS hl) (fun q => hK _ _ _ _ (k2 (fun z => q ((i32_lt hy hx).mpr z))) H locs ls hP hD hS hl)
  · exact hk.elim
def o_if_gt (t n : Nat) : zO := fun _ _ lv st h K => match st with
  | .inl x :: r => inR x ∧ (0 < x → K t lv r h) ∧ (¬ (0 < x) → K n lv r h)
  | _ => False
theorem s_if_gt {off : Int} {t : Nat} (hd : decode k.2.1 pc = .ok (.ifCond .gt off, 3)) (ht : (pc : Int) + off = (t : Int)) (hn : pc + 3 = n) : zS k pc (o_if_gt t n) := by
  intro X d Q C E K hK lv st h hk
  subst hn
  unfold o_if_gt at hk
  split at hk
  · rename_i x r
    intro H locs ls hP hD hS hl
    obtain ⟨hx, k1, k2⟩ := hk
    have hy := inR_0
    exact lv_if_gt C.1 C.2.1 hd ht (fun q => hK _ _ _ _ (k1 ((i32_lt hy hx).mp q)) H locs ls hP hD hS hl) (fun q => hK _ _ _ _ (k2 (fun z => q ((i32_lt hy hx).mpr z))) H locs ls hP hD hS hl)
  · exact hk.elim
def o_icmp_le (t n : Nat) : zO := fun _ _ lv st h K => match st with
  | .inl y :: .inl x :: r => inR x ∧ inR y ∧ (x ≤ y → K t lv r h) ∧ (¬ (x ≤ y) → K n lv r h)
  | _ => False
theorem s_icmp_le {off : Int} {t : Nat} (hd : decode k.2.1 pc = .ok (.if_icmp .le off, 3)) (ht : (pc : Int) + off = (t : Int)) (hn : pc + 3 = n) : zS k pc (o_icmp_le t n) := by
  intro X d Q C E K hK lv st h hk
  subst hn
  unfold o_icmp_le at hk
  split at hk
  · rename_i y x r
    intro H locs ls hP hD hS hl
    obtain ⟨hx, hy, k1, k2⟩ := hk
    
    exact lv_icmp_le C.1 C.2.1 hd ht (fun q => hK _ _ _ _ (k1 ((i32_le hx hy).mp q)) H locs ls hP hD hS hl) (fun q => hK _ _ _ _ (k2 (fun z => q ((i32_le hx hy).mpr z))) H locs ls hP hD hS hl)
  · exact hk.elim
def o_if_le (t n : Nat) : zO := fun _ _ lv st h K => match st with
  | .inl x :: r => inR x ∧ (x ≤ 0 → K t lv r h) ∧ (¬ (x ≤ 0) → K n lv r h)
  | _ => False
theorem s_if_le {off : Int} {t : Nat} (hd : decode k.2.1 pc = .ok (.ifCond .le off, 3)) (ht : (pc : Int) + off = (t : Int)) (hn : pc + 3 = n) : zS k pc (o_if_le t n) := by
  intro X d Q C E K hK lv st h hk
  subst hn
  unfold o_if_le at hk
  split at hk
  · rename_i x r
    intro H locs ls hP hD hS hl
    obtain ⟨hx, k1, k2⟩ := hk
    have hy := inR_0
    exact lv_if_le C.1 C.2.1 hd ht (fun q => hK _ _ _ _ (k1 ((i32_le hx hy).mp q)) H locs ls hP hD hS hl) (fun q => hK _ _ _ _ (k2 (fun z => q ((i32_le hx hy).mpr z))) H locs ls hP hD hS hl)
  · exact hk.elim
def o_goto (t : Nat) : zO := fun _ _ lv st h K => K t lv st h
theorem s_goto {off : Int} {t : Nat} (hd : decode k.2.1 pc = .ok (.goto off, 3)) (ht : (pc : Int) + off = (t : Int)) : zS k pc (o_goto t) := by
  intro X d Q C E K hK lv st h hk H locs ls hP hD hS hl
  exact lv_goto C.1 C.2.1 hd ht (hK _ _ _ _ hk H locs ls hP hD hS hl)
def c1v : zV → Bool
  | .inr (.inl _) => false
  | _ => true
theorem c1v_cat {A : Nat → Nat} {v : zV} (h : c1v v = true) : (cvV A v).category = 1 := by
  rcases lv_cat (cvV A v) with g | g
  · exact g
  · obtain ⟨y, rfl⟩ := (cv_cat A v).mp g
    cases h
def o_dup (n : Nat) : zO := fun _ _ lv st h K => match st with
  | v :: r => match c1v v with
    | true => K n lv (v :: v :: r) h
    | false => False
  | _ => False
theorem s_dup (hd : decode k.2.1 pc = .ok (.dup, 1)) (hn : pc + 1 = n) : zS k pc (o_dup n) := by
  intro X d Q C E K hK lv st h hk
  subst hn
  unfold o_dup at hk
  split at hk
  · split at hk
    · rename_i hc
      intro H locs ls hP hD hS hl
      exact lv_dup C.1 C.2.1 hd (c1v_cat hc) (hK _ _ _ _ hk H locs ls hP hD hS hl)
    · exact hk.elim
  · exact hk.elim
def o_pop (n : Nat) : zO := fun _ _ lv st h K => match st with
  | v :: r => match c1v v with
    | true => K n lv r h
    | false => False
  | _ => False
theorem s_pop (hd : decode k.2.1 pc = .ok (.pop, 1)) (hn : pc + 1 = n) : zS k pc (o_pop n) := by
  intro X d Q C E K hK lv st h hk
  subst hn
  unfold o_pop at hk
  split at hk
  · split at hk
    · rename_i hc
      intro H locs ls hP hD hS hl
      exact lv_pop C.1 C.2.1 hd (c1v_cat hc) (hK _ _ _ _ hk H locs ls hP hD hS hl)
    · exact hk.elim
  · exact hk.elim
def o_dup2 (n : Nat) : zO := fun _ _ lv st h K => match st with
  | v :: u :: r => match c1v v, c1v u with
    | true, true => K n lv (v :: u :: v :: u :: r) h
    | _, _ => False
  | _ => False
theorem s_dup2 (hd : decode k.2.1 pc = .ok (.dup2, 1)) (hn : pc + 1 = n) : zS k pc (o_dup2 n) := by
  intro X d Q C E K hK lv st h hk
  subst hn
  unfold o_dup2 at hk
  split at hk
  · split at hk
    · rename_i hc hc2
      intro H locs ls hP hD hS hl
      exact lv_dup2_11 C.1 C.2.1 hd (c1v_cat hc) (c1v_cat hc2) (hK _ _ _ _ hk H locs ls hP hD hS hl)
    · exact hk.elim
  · exact hk.elim
end OPS
