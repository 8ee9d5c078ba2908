/-! ===== small facts of bits ===== -/
theorem i32_toNat (x : Int) : (i32 x).toBitVec.toNat = (x % 4294967296).toNat := by
  show (BitVec.ofInt 32 x).toNat = _
  rw [BitVec.toNat_ofInt]
  rfl
theorem and32_mask (x : Int) (k : Nat) (hk : k < 31) : and32 x ((2 ^ k - 1 : Nat) : Int) = x % ((2 ^ k : Nat) : Int) := by
  have hp : 2 ^ k ≤ 2 ^ 30 := Nat.pow_le_pow_right (by omega) (by omega)
  have hp1 : 1 ≤ 2 ^ k := Nat.one_le_two_pow
  have h1 : ((i32 x &&& i32 ((2 ^ k - 1 : Nat) : Int)).toBitVec.toNat) = (x % ((2 ^ k : Nat) : Int)).toNat := by
    rw [Int32.toBitVec_and, BitVec.toNat_and, i32_toNat, i32_toNat]
    have e1 : ((((2 ^ k - 1 : Nat) : Int)) % 4294967296).toNat = 2 ^ k - 1 := by
      rw [Int.emod_eq_of_lt (by omega) (by omega)]
      omega
    rw [e1, Nat.and_two_pow_sub_one_eq_mod]
    have e2 : ((x % 4294967296).toNat : Int) = x % 4294967296 := Int.toNat_of_nonneg (by omega)
    have e3 : (((x % 4294967296).toNat % 2 ^ k : Nat) : Int) = x % ((2 ^ k : Nat) : Int) := by
      rw [Int.natCast_emod, e2]
      have hd : ((2 ^ k : Nat) : Int) ∣ 4294967296 := by
        refine ⟨((2 ^ (32 - k) : Nat) : Int), ?_⟩
        rw [← Int.natCast_mul, ← Nat.pow_add, show k + (32 - k) = 32 by omega]
        rfl
      exact Int.emod_emod_of_dvd x hd
    omega
  have hlt : x % ((2 ^ k : Nat) : Int) < ((2 ^ k : Nat) : Int) := Int.emod_lt_of_pos x (by omega)
  have hge : 0 ≤ x % ((2 ^ k : Nat) : Int) := Int.emod_nonneg x (by omega)
  show (i32 x &&& i32 ((2 ^ k - 1 : Nat) : Int)).toBitVec.toInt = _
  rw [BitVec.toInt_eq_toNat_of_lt (by rw [h1]; omega), h1]
  omega
theorem and32_255 (x : Int) : and32 x 255 = x % 256 := and32_mask x 8 (by decide)
theorem and32_15 (x : Int) : and32 x 15 = x % 16 := and32_mask x 4 (by decide)
theorem and32_1 (x : Int) : and32 x 1 = x % 2 := and32_mask x 1 (by decide)
theorem and32_63 (x : Int) : and32 x 63 = x % 64 := and32_mask x 6 (by decide)
theorem shl32_tab : ∀ n : Nat, n < 31 → shl32 1 (n : Int) = ((2 ^ n : Nat) : Int) := by decide
theorem shl32_1 {y : Int} (h0 : 0 ≤ y) (h1 : y < 31) : shl32 1 y = ((2 ^ y.toNat : Nat) : Int) := by
  have := shl32_tab y.toNat (by omega)
  rwa [Int.toNat_of_nonneg h0] at this
theorem shr_amt : ∀ n : Nat, n < 32 → ((i32 (n : Int) &&& 31).toBitVec.smod 32).toNat = n := by decide
theorem ushr_amt : ∀ n : Nat, n < 32 → (((i32 (n : Int)).toUInt32 &&& Int32.toUInt32 31).toBitVec % 32).toNat = n := by decide
theorem shr32_eq {x y : Int} (hx : inR x) (h0 : 0 ≤ y) (h1 : y < 32) : shr32 x y = x / ((2 ^ y.toNat : Nat) : Int) := by
  have e : (i32 x >>> (i32 y &&& 31)).toBitVec = (i32 x).toBitVec.sshiftRight y.toNat := by
    show (i32 x).toBitVec.sshiftRight' ((i32 y &&& 31).toBitVec.smod 32) = _
    rw [BitVec.sshiftRight_eq']
    have := shr_amt y.toNat (by omega)
    rw [Int.toNat_of_nonneg h0] at this
    rw [this]
  show (i32 x >>> (i32 y &&& 31)).toBitVec.toInt = _
  rw [e, BitVec.toInt_sshiftRight, Int.shiftRight_eq_div_pow]
  rw [show (i32 x).toBitVec.toInt = x from i32_toInt hx]
theorem ushr32_nat {x y : Int} (h0 : 0 ≤ y) (h1 : y < 32) : (ushr32 x y) = (((i32 x).toBitVec.toNat / 2 ^ y.toNat : Nat) : Int).bmod 4294967296 := by
  have e : ((i32 x).toUInt32 >>> ((i32 y).toUInt32 &&& Int32.toUInt32 31)).toInt32.toBitVec = (i32 x).toBitVec >>> y.toNat := by
    show (i32 x).toBitVec >>> (((i32 y).toUInt32 &&& Int32.toUInt32 31).toBitVec % 32) = _
    rw [BitVec.ushiftRight_eq']
    have := ushr_amt y.toNat (by omega)
    rw [Int.toNat_of_nonneg h0] at this
    rw [this]
  show ((i32 x).toUInt32 >>> ((i32 y).toUInt32 &&& Int32.toUInt32 31)).toInt32.toBitVec.toInt = _
  rw [e, BitVec.toInt_eq_toNat_bmod, BitVec.toNat_ushiftRight, Nat.shiftRight_eq_div_pow]
theorem ushr32_eq {x y : Int} (hx : 0 ≤ x ∧ x ≤ 2147483647) (h0 : 0 ≤ y) (h1 : y < 32) : ushr32 x y = x / ((2 ^ y.toNat : Nat) : Int) := by
  rw [ushr32_nat h0 h1, i32_toNat, Int.emod_eq_of_lt (by omega) (by omega), Int.natCast_ediv, Int.toNat_of_nonneg hx.1]
  have hp : 1 ≤ 2 ^ y.toNat := Nat.one_le_two_pow
  have h2 : 0 ≤ x / ((2 ^ y.toNat : Nat) : Int) := Int.ediv_nonneg hx.1 (by omega)
  have h3 : x / ((2 ^ y.toNat : Nat) : Int) ≤ x := Int.ediv_le_self _ hx.1
  exact Int.bmod_eq_of_le (by omega) (by omega)
/-- a byte of an int, taken by either shift -/
theorem byte_shr {x y : Int} (hx : inR x) (h0 : 0 ≤ y) (h1 : y ≤ 24) : and32 (ushr32 x y) 255 = and32 (shr32 x y) 255 := by
  rw [and32_255, and32_255, shr32_eq hx h0 (by omega), ushr32_nat h0 (by omega), i32_toNat]
  have e2 : ((x % 4294967296).toNat : Int) = x % 4294967296 := Int.toNat_of_nonneg (by omega)
  rw [Int.natCast_ediv, e2]
  have hp : ∃ n, n ≤ 24 ∧ y.toNat = n := ⟨y.toNat, by omega, rfl⟩
  obtain ⟨n, hn, e⟩ := hp
  rw [e]
  have hd : (256 : Int) ∣ 4294967296 := by decide
  rw [Int.emod_emod_of_dvd _ hd |>.symm]
  have e5 : ∀ z : Int, (z.bmod 4294967296) % 4294967296 = z % 4294967296 := by
    intro z
    show z.bmod 4294967296 % ((4294967296 : Nat) : Int) = z % ((4294967296 : Nat) : Int)
    rw [Int.bmod_emod]
  rw [e5, Int.emod_emod_of_dvd _ hd]
  have e6 : x / ((2 ^ n : Nat) : Int) = (x % 4294967296 + 4294967296 * (x / 4294967296)) / ((2 ^ n : Nat) : Int) := by
    rw [Int.emod_add_mul_ediv]
  have e7 : (4294967296 : Int) = ((2 ^ n : Nat) : Int) * ((2 ^ (24 - n) : Nat) : Int) * 256 := by
    rw [← Int.natCast_mul, ← Nat.pow_add, show n + (24 - n) = 24 by omega]
    rfl
  have hpos : ((2 ^ n : Nat) : Int) ≠ 0 := by
    have : 1 ≤ 2 ^ n := Nat.one_le_two_pow
    omega
  have e8 : (4294967296 : Int) * (x / 4294967296) = ((2 ^ n : Nat) : Int) * (256 * (((2 ^ (24 - n) : Nat) : Int) * (x / 4294967296))) := by
    generalize x / 4294967296 = q
    rw [e7]
    simp only [Int.mul_assoc, Int.mul_comm, Int.mul_left_comm]
  rw [e6, e8, Int.add_mul_ediv_left _ _ hpos, Int.add_mul_emod_self_left]
theorem byte_in (x : Int) : 0 ≤ and32 x 255 ∧ and32 x 255 ≤ 255 := by
  rw [and32_255]
  omega
theorem bit_tab : ∀ s : Nat, s < 32 → ∀ w : Nat, w < 5 → and32 (ushr32 (s : Int) (w : Int)) 1 = ((s / 2 ^ w % 2 : Nat) : Int) ∧ and32 (shr32 (s : Int) (w : Int)) 1 = ((s / 2 ^ w % 2 : Nat) : Int) := by decide
theorem sub_tab : ∀ s : Nat, s < 32 → ∀ w : Nat, w < 32 → (and32 (s : Int) (xor32 (w : Int) (-1)) = 0 ↔ ∀ i : Nat, i < 5 → s / 2 ^ i % 2 = 1 → w / 2 ^ i % 2 = 1) := by decide +kernel
theorem or32_0 {x : Int} (h : inR x) : or32 x 0 = x := by
  unfold or32
  rw [show i32 0 = 0 from rfl, Int32.or_zero, i32_toInt h]
theorem or32_in (x y : Int) : inR (or32 x y) := i32_in _
theorem xor32_in (x y : Int) : inR (xor32 x y) := i32_in _
theorem and32_in (x y : Int) : inR (and32 x y) := i32_in _
theorem shl32_in (x y : Int) : inR (shl32 x y) := i32_in _
theorem lcmp3 {x y : Int64} {A B C : Prop} (a : x.toInt < y.toInt → A) (b : x.toInt = y.toInt → B) (c : y.toInt < x.toInt → C) : (x < y → A) ∧ (x = y → B) ∧ (y < x → C) :=
  ⟨fun h => a (l_lt.mp h), fun h => b (l_eq.mp h), fun h => c (l_lt.mp h)⟩
/-- all cells but these are as they were -/
def same (S : List Nat) (h g : zH) : Prop := ∀ c, c ∉ S → g.1 c = h.1 c ∧ g.2 c = h.2 c
theorem same_rfl (S : List Nat) (h : zH) : same S h h := fun _ _ => ⟨rfl, rfl⟩
theorem same_trans {S : List Nat} {h g f : zH} (a : same S h g) (b : same S g f) : same S h f := fun c hc => ⟨(b c hc).1.trans (a c hc).1, (b c hc).2.trans (a c hc).2⟩
theorem same_sub {S S' : List Nat} {h g : zH} (a : same S h g) (hs : ∀ c ∈ S, c ∈ S') : same S' h g := fun c hc => a c (fun q => hc (hs c q))
theorem same_setI {S : List Nat} {h g : zH} {c i : Nat} {v : Int} (a : same S h g) (hc : c ∈ S) : same S h (setI g c i v) := fun c' hc' => by
  have hne : c' ≠ c := fun e => hc' (e ▸ hc)
  obtain ⟨e1, e2⟩ := setI_o (h := g) (i := i) (x := v) c' hne
  exact ⟨e1.trans (a c' hc').1, e2.trans (a c' hc').2⟩
theorem same_setL {S : List Nat} {h g : zH} {c i : Nat} {v : Int64} (a : same S h g) (hc : c ∈ S) : same S h (setL g c i v) := fun c' hc' => by
  have hne : c' ≠ c := fun e => hc' (e ▸ hc)
  obtain ⟨e1, e2⟩ := setL_o (h := g) (i := i) (x := v) c' hne
  exact ⟨e1.trans (a c' hc').1, e2.trans (a c' hc').2⟩
theorem setI_at (h : zH) (c i c' i' : Nat) (v : Int) : (setI h c i v).1 c' i' = if c' = c ∧ i' = i then v else h.1 c' i' := rfl
theorem setI_at2 (h : zH) (c i c' i' : Nat) (v : Int) : (setI h c i v).2 c' i' = h.2 c' i' := rfl
theorem setL_at (h : zH) (c i c' i' : Nat) (v : Int64) : (setL h c i v).2 c' i' = if c' = c ∧ i' = i then v else h.2 c' i' := rfl
theorem setL_at1 (h : zH) (c i c' i' : Nat) (v : Int64) : (setL h c i v).1 c' i' = h.1 c' i' := rfl
