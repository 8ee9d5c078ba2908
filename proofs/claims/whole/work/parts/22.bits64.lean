/-! ===== bits of a long ===== -/
def lb (x : Int64) (j : Nat) : Bool := x.toBitVec.getLsbD j
theorem lb_or (x y : Int64) (j : Nat) : lb (x ||| y) j = (lb x j || lb y j) := by
  show (x.toBitVec ||| y.toBitVec).getLsbD j = _
  rw [BitVec.getLsbD_or]
  rfl
theorem lb_and (x y : Int64) (j : Nat) : lb (x &&& y) j = (lb x j && lb y j) := by
  show (x.toBitVec &&& y.toBitVec).getLsbD j = _
  rw [BitVec.getLsbD_and]
  rfl
theorem lb_nat (x : Int64) (j : Nat) : lb x j = decide (x.toBitVec.toNat / 2 ^ j % 2 = 1) := by
  unfold lb
  rw [← BitVec.testBit_toNat, Nat.testBit_eq_decide_div_mod_eq]
theorem lb_0 (j : Nat) : lb 0 j = false := by
  show (0#64).getLsbD j = false
  exact BitVec.getLsbD_zero
theorem lb_ext {x y : Int64} (h : ∀ j, j < 64 → lb x j = lb y j) : x = y := by
  have : x.toBitVec = y.toBitVec := BitVec.eq_of_getLsbD_eq (fun i hi => h i hi)
  cases x; cases y
  exact Int64.toBitVec_inj.mp this
theorem lb_ne0 {x : Int64} : ¬ x = 0 ↔ ∃ j, j < 64 ∧ lb x j = true := by
  constructor
  · intro h
    refine Classical.byContradiction (fun q => h (lb_ext (fun j hj => ?_)))
    rw [lb_0]
    cases e : lb x j with
    | false => rfl
    | true => exact absurd ⟨j, hj, e⟩ q
  · rintro ⟨j, hj, e⟩ rfl
    rw [lb_0] at e
    cases e
theorem amt64u : ∀ n : Nat, n < 64 → (((i32 (n : Int)).toInt64.toUInt64 &&& Int64.toUInt64 63).toBitVec % 64).toNat = n := by decide
theorem amt64s : ∀ n : Nat, n < 64 → (((i32 (n : Int)).toInt64 &&& 63).toBitVec.smod 64).toNat = n := by decide
theorem lb_ushr (x : Int64) {y : Int} (h0 : 0 ≤ y) (h1 : y < 64) (j : Nat) : lb (ushr64 x y) j = lb x (y.toNat + j) := by
  have e := amt64u y.toNat (by omega)
  rw [Int.toNat_of_nonneg h0] at e
  show (x.toBitVec >>> (((i32 y).toInt64.toUInt64 &&& Int64.toUInt64 63).toBitVec % 64)).getLsbD j = _
  rw [BitVec.ushiftRight_eq', BitVec.getLsbD_ushiftRight, e]
  rfl
theorem lb_shl (x : Int64) {y : Int} (h0 : 0 ≤ y) (h1 : y < 64) (j : Nat) (hj : j < 64) : lb (shl64 x y) j = (decide (y.toNat ≤ j) && lb x (j - y.toNat)) := by
  have e := amt64s y.toNat (by omega)
  rw [Int.toNat_of_nonneg h0] at e
  show (x.toBitVec <<< (((i32 y).toInt64 &&& 63).toBitVec.smod 64)).getLsbD j = _
  rw [BitVec.shiftLeft_eq', BitVec.getLsbD_shiftLeft, e]
  have : decide (j < 64) = true := by simp [hj]
  rw [this]
  by_cases c : y.toNat ≤ j
  · simp [c, Nat.not_lt.mpr c]
    rfl
  · simp [c, Nat.not_le.mp c]
theorem lb_15 : ∀ j : Nat, j < 64 → lb 15 j = decide (j < 4) := by decide
theorem lb_1 : ∀ j : Nat, j < 64 → lb 1 j = decide (j = 0) := by decide
theorem lb_m1 : ∀ j : Nat, j < 64 → lb (-1) j = true := by decide
theorem lb_xor (x y : Int64) (j : Nat) : lb (x ^^^ y) j = (lb x j ^^ lb y j) := by
  show (x.toBitVec ^^^ y.toBitVec).getLsbD j = _
  rw [BitVec.getLsbD_xor]
  rfl
theorem l2i_15 (x : Int64) : and32 (l2i x) 15 = ((x.toBitVec.toNat % 16 : Nat) : Int) := by
  rw [and32_15]
  unfold l2i
  have e1 : (x.toInt32.toInt) = x.toInt.bmod 4294967296 := by simp
  have e2 : x.toInt = (x.toBitVec.toNat : Int).bmod 18446744073709551616 := BitVec.toInt_eq_toNat_bmod x.toBitVec
  rw [e1, e2]
  generalize x.toBitVec.toNat = n
  have k1 : ∀ z : Int, z.bmod 4294967296 % 16 = z % 16 := by
    intro z
    have h1 : z.bmod 4294967296 % ((4294967296 : Nat) : Int) = z % ((4294967296 : Nat) : Int) := Int.bmod_emod
    omega
  have k2 : ∀ z : Int, z.bmod 18446744073709551616 % 16 = z % 16 := by
    intro z
    have h1 : z.bmod 18446744073709551616 % ((18446744073709551616 : Nat) : Int) = z % ((18446744073709551616 : Nat) : Int) := Int.bmod_emod
    omega
  rw [k1, k2]
  omega
/-- four bits, and one of them -/
theorem four_b (x : Int64) {k : Int} (h0 : 0 ≤ k) (h1 : k < 60) (y : Nat) (hy : y < 4) : and32 (ushr32 (and32 (l2i (ushr64 x k)) 15) y) 1 = if lb x (k.toNat + y) = true then 1 else 0 := by
  rw [l2i_15]
  have hb := lb_ushr x h0 (by omega) y
  rw [lb_nat] at hb
  generalize (ushr64 x k).toBitVec.toNat = n at hb ⊢
  have ht := (bit_tab (n % 16) (by omega) y (by omega)).1
  rw [ht, ← hb]
  have e : n % 16 / 2 ^ y % 2 = n / 2 ^ y % 2 := by
    match y, hy with
    | 0, _ => omega
    | 1, _ => omega
    | 2, _ => omega
    | 3, _ => omega
    | y + 4, h => omega
  rw [e]
  by_cases c : n / 2 ^ y % 2 = 1
  · simp [c]
  · have c2 : n / 2 ^ y % 2 = 0 := by omega
    simp [c2]
theorem four_in (x : Int64) (k : Int) : 0 ≤ and32 (l2i (ushr64 x k)) 15 ∧ and32 (l2i (ushr64 x k)) 15 ≤ 15 := by
  rw [l2i_15]
  omega
theorem or_tab : ∀ a : Nat, a < 16 → ∀ b : Nat, b < 16 → (or32 (a : Int) (b : Int) = 0 ↔ a = 0 ∧ b = 0) := by decide
theorem four_0 (x : Int64) {k : Int} (h0 : 0 ≤ k) (h1 : k < 60) : and32 (l2i (ushr64 x k)) 15 = 0 ↔ ∀ y : Nat, y < 4 → lb x (k.toNat + y) = false := by
  rw [l2i_15]
  have hb := fun y => lb_ushr x h0 (by omega : k < 64) y
  constructor
  · intro h y hy
    have := hb y
    rw [lb_nat] at this
    rw [← this]
    have h2 : (ushr64 x k).toBitVec.toNat % 16 = 0 := by omega
    generalize (ushr64 x k).toBitVec.toNat = n at h2
    match y, hy with
    | 0, _ => simp; omega
    | 1, _ => simp; omega
    | 2, _ => simp; omega
    | 3, _ => simp; omega
    | y + 4, h => omega
  · intro h
    have a0 := hb 0
    have a1 := hb 1
    have a2 := hb 2
    have a3 := hb 3
    rw [lb_nat, h 0 (by omega)] at a0
    rw [lb_nat, h 1 (by omega)] at a1
    rw [lb_nat, h 2 (by omega)] at a2
    rw [lb_nat, h 3 (by omega)] at a3
    generalize (ushr64 x k).toBitVec.toNat = n at a0 a1 a2 a3 ⊢
    simp at a0 a1 a2 a3
    omega
/-- one bit set where b is 1 -/
theorem lb_one {b : Int} (hb : b = 0 ∨ b = 1) {y : Int} (h0 : 0 ≤ y) (h1 : y < 64) (j : Nat) (hj : j < 64) : lb (shl64 (i2l b) y) j = (decide (b = 1) && decide (j = y.toNat)) := by
  rw [lb_shl _ h0 h1 j hj]
  rcases hb with rfl | rfl
  · have : i2l 0 = 0 := rfl
    rw [this, lb_0]
    simp
  · have : i2l 1 = 1 := rfl
    rw [this]
    by_cases c : y.toNat ≤ j
    · rw [lb_1 _ (by omega)]
      simp [c]
      omega
    · simp [c]
      omega
/-- the four bits of a place -/
theorem lb_place {y : Int} (h0 : 0 ≤ y) (h1 : y ≤ 60) (j : Nat) (hj : j < 64) : lb (shl64 15 y) j = (decide (y.toNat ≤ j) && decide (j < y.toNat + 4)) := by
  rw [lb_shl _ h0 (by omega) j hj]
  by_cases c : y.toNat ≤ j
  · rw [lb_15 _ (by omega)]
    simp [c]
    omega
  · simp [c]
