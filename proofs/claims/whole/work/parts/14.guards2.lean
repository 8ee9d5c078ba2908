theorem imp_i {A B : Prop} (h : A → B) : A → B := h
theorem c_X9_within {d : Nat} (h : zH) (a b c : Int64) (v lo hi : Int) (ha : a.toInt = v) (hb : b.toInt = lo) (hc : c.toInt = hi) : zC d k_X9_within [sL a, sL b, sL c] h (fun o g => h = g ∧ o = some (sI (if lo ≤ v ∧ v ≤ hi then 1 else 0))) := by
  refine zC_of (by decide +kernel) (Nat.le_of_ble_eq_true rfl) (fun X C E => zrun_sound t_X9_within C E [] 200 _ _ _ _ ?_)
  repeat' first
    | omega
    | exact And.intro rfl (congrArg (fun z => some (sI z)) (by omega))
    | refine lcmp3 (fun _ => ?_) (fun _ => ?_) (fun _ => ?_)
    | refine And.intro (by omega) ?_
    | refine And.intro (fun _ => ?_) (fun _ => ?_)
    | refine imp_i (fun _ => ?_)
theorem c_X9_isMinute {d : Nat} (hd : 1 ≤ d) (h : zH) (v : Int) (hv : inR v) : zC d k_X9_isMinute [sI v] h (fun o g => h = g ∧ o = some (sI (if 0 ≤ v ∧ v ≤ 1439 then 1 else 0))) := by
  refine zC_of (by decide +kernel) (Nat.le_of_ble_eq_true rfl) (fun X C E => zrun_sound t_X9_isMinute C E [] 200 _ _ _ _ ?_)
  repeat' first
    | omega
    | exact And.intro rfl (congrArg (fun z => some (sI z)) (by omega))
    | refine And.intro (by omega) ?_
    | refine And.intro (fun _ => ?_) (fun _ => ?_)
    | refine imp_i (fun _ => ?_)
    | (refine zcall_i (d' := d - 1) (by omega) (c_X9_within h _ _ _ (v) (0) (1439) (by first | exact i2l_toInt (by omega) | decide) (by first | exact i2l_toInt (by omega) | decide) (by first | exact i2l_toInt (by omega) | decide)) ?_; rintro _ _ ⟨rfl, rfl⟩)
theorem c_X9_isTide {d : Nat} (hd : 1 ≤ d) (h : zH) (v : Int) (hv : inR v) (hp : 0 ≤ h.1 52 8 ∧ h.1 52 8 ≤ 10) : zC d k_X9_isTide [sR 52, sI v] h (fun o g => h = g ∧ o = some (sI (if 0 ≤ v ∧ v < h.1 52 8 then 1 else 0))) := by
  refine zC_of (by decide +kernel) (Nat.le_of_ble_eq_true rfl) (fun X C E => zrun_sound t_X9_isTide C E [] 200 _ _ _ _ ?_)
  repeat' first
    | omega
    | exact And.intro rfl (congrArg (fun z => some (sI z)) (by omega))
    | refine And.intro (by omega) ?_
    | refine And.intro (fun _ => ?_) (fun _ => ?_)
    | refine imp_i (fun _ => ?_)
    | (refine zcall_i (d' := d - 1) (by omega) (c_X9_within h _ _ _ (v) (0) (h.1 52 8 - 1) (by first | exact i2l_toInt (by omega) | decide) (by first | exact i2l_toInt (by omega) | decide) (by first | exact i2l_toInt (by omega) | decide)) ?_; rintro _ _ ⟨rfl, rfl⟩)
theorem c_X9_isWind {d : Nat} (hd : 1 ≤ d) (h : zH) (v : Int) (hv : inR v) (hp : 0 ≤ h.1 52 16 ∧ h.1 52 16 ≤ 5) : zC d k_X9_isWind [sR 52, sI v] h (fun o g => h = g ∧ o = some (sI (if 0 ≤ v ∧ v < h.1 52 16 then 1 else 0))) := by
  refine zC_of (by decide +kernel) (Nat.le_of_ble_eq_true rfl) (fun X C E => zrun_sound t_X9_isWind C E [] 200 _ _ _ _ ?_)
  repeat' first
    | omega
    | exact And.intro rfl (congrArg (fun z => some (sI z)) (by omega))
    | refine And.intro (by omega) ?_
    | refine And.intro (fun _ => ?_) (fun _ => ?_)
    | refine imp_i (fun _ => ?_)
    | (refine zcall_i (d' := d - 1) (by omega) (c_X9_within h _ _ _ (v) (0) (h.1 52 16 - 1) (by first | exact i2l_toInt (by omega) | decide) (by first | exact i2l_toInt (by omega) | decide) (by first | exact i2l_toInt (by omega) | decide)) ?_; rintro _ _ ⟨rfl, rfl⟩)
theorem c_X9_isPlace {d : Nat} (hd : 1 ≤ d) (h : zH) (v : Int) (hv : inR v) (hp : 0 ≤ h.1 52 20 ∧ h.1 52 20 ≤ 12) : zC d k_X9_isPlace [sR 52, sI v] h (fun o g => h = g ∧ o = some (sI (if 0 ≤ v ∧ v < h.1 52 20 then 1 else 0))) := by
  refine zC_of (by decide +kernel) (Nat.le_of_ble_eq_true rfl) (fun X C E => zrun_sound t_X9_isPlace C E [] 200 _ _ _ _ ?_)
  repeat' first
    | omega
    | exact And.intro rfl (congrArg (fun z => some (sI z)) (by omega))
    | refine And.intro (by omega) ?_
    | refine And.intro (fun _ => ?_) (fun _ => ?_)
    | refine imp_i (fun _ => ?_)
    | (refine zcall_i (d' := d - 1) (by omega) (c_X9_within h _ _ _ (v) (0) (h.1 52 20 - 1) (by first | exact i2l_toInt (by omega) | decide) (by first | exact i2l_toInt (by omega) | decide) (by first | exact i2l_toInt (by omega) | decide)) ?_; rintro _ _ ⟨rfl, rfl⟩)
theorem c_X9_isWay {d : Nat} (hd : 1 ≤ d) (h : zH) (v : Int) (hv : inR v) (hp : 0 ≤ h.1 52 21 ∧ h.1 52 21 ≤ 24) : zC d k_X9_isWay [sR 52, sI v] h (fun o g => h = g ∧ o = some (sI (if 0 ≤ v ∧ v < h.1 52 21 then 1 else 0))) := by
  refine zC_of (by decide +kernel) (Nat.le_of_ble_eq_true rfl) (fun X C E => zrun_sound t_X9_isWay C E [] 200 _ _ _ _ ?_)
  repeat' first
    | omega
    | exact And.intro rfl (congrArg (fun z => some (sI z)) (by omega))
    | refine And.intro (by omega) ?_
    | refine And.intro (fun _ => ?_) (fun _ => ?_)
    | refine imp_i (fun _ => ?_)
    | (refine zcall_i (d' := d - 1) (by omega) (c_X9_within h _ _ _ (v) (0) (h.1 52 21 - 1) (by first | exact i2l_toInt (by omega) | decide) (by first | exact i2l_toInt (by omega) | decide) (by first | exact i2l_toInt (by omega) | decide)) ?_; rintro _ _ ⟨rfl, rfl⟩)
theorem c_X9_isBody {d : Nat} (hd : 1 ≤ d) (h : zH) (v : Int) (hv : inR v) (hp : 0 ≤ h.1 52 44 ∧ h.1 52 44 ≤ 50) : zC d k_X9_isBody [sR 52, sI v] h (fun o g => h = g ∧ o = some (sI (if 0 ≤ v ∧ v < h.1 52 44 then 1 else 0))) := by
  refine zC_of (by decide +kernel) (Nat.le_of_ble_eq_true rfl) (fun X C E => zrun_sound t_X9_isBody C E [] 200 _ _ _ _ ?_)
  repeat' first
    | omega
    | exact And.intro rfl (congrArg (fun z => some (sI z)) (by omega))
    | refine And.intro (by omega) ?_
    | refine And.intro (fun _ => ?_) (fun _ => ?_)
    | refine imp_i (fun _ => ?_)
    | (refine zcall_i (d' := d - 1) (by omega) (c_X9_within h _ _ _ (v) (0) (h.1 52 44 - 1) (by first | exact i2l_toInt (by omega) | decide) (by first | exact i2l_toInt (by omega) | decide) (by first | exact i2l_toInt (by omega) | decide)) ?_; rintro _ _ ⟨rfl, rfl⟩)
theorem c_X9_isSort {d : Nat} (hd : 1 ≤ d) (h : zH) (v : Int) (hv : inR v) : zC d k_X9_isSort [sI v] h (fun o g => h = g ∧ o = some (sI (if 0 ≤ v ∧ v ≤ 3 then 1 else 0))) := by
  refine zC_of (by decide +kernel) (Nat.le_of_ble_eq_true rfl) (fun X C E => zrun_sound t_X9_isSort C E [] 200 _ _ _ _ ?_)
  repeat' first
    | omega
    | exact And.intro rfl (congrArg (fun z => some (sI z)) (by omega))
    | refine And.intro (by omega) ?_
    | refine And.intro (fun _ => ?_) (fun _ => ?_)
    | refine imp_i (fun _ => ?_)
    | (refine zcall_i (d' := d - 1) (by omega) (c_X9_within h _ _ _ (v) (0) (3) (by first | exact i2l_toInt (by omega) | decide) (by first | exact i2l_toInt (by omega) | decide) (by first | exact i2l_toInt (by omega) | decide)) ?_; rintro _ _ ⟨rfl, rfl⟩)
theorem c_X9_isShelf {d : Nat} (hd : 1 ≤ d) (h : zH) (v : Int) (hv : inR v) : zC d k_X9_isShelf [sI v] h (fun o g => h = g ∧ o = some (sI (if 0 ≤ v ∧ v ≤ 5 then 1 else 0))) := by
  refine zC_of (by decide +kernel) (Nat.le_of_ble_eq_true rfl) (fun X C E => zrun_sound t_X9_isShelf C E [] 200 _ _ _ _ ?_)
  repeat' first
    | omega
    | exact And.intro rfl (congrArg (fun z => some (sI z)) (by omega))
    | refine And.intro (by omega) ?_
    | refine And.intro (fun _ => ?_) (fun _ => ?_)
    | refine imp_i (fun _ => ?_)
    | (refine zcall_i (d' := d - 1) (by omega) (c_X9_within h _ _ _ (v) (0) (5) (by first | exact i2l_toInt (by omega) | decide) (by first | exact i2l_toInt (by omega) | decide) (by first | exact i2l_toInt (by omega) | decide)) ?_; rintro _ _ ⟨rfl, rfl⟩)
theorem c_X9_areTwo {d : Nat} (hd : 2 ≤ d) (h : zH) (v : Int) (hv : inR v) (hp : 0 ≤ h.1 52 20 ∧ h.1 52 20 ≤ 12) : zC d k_X9_areTwo [sR 52, sI v] h (fun o g => h = g ∧ o = some (sI (if 0 ≤ v ∧ v / 100 < h.1 52 20 ∧ v % 100 < h.1 52 20 ∧ v / 100 ≠ v % 100 then 1 else 0))) := by
  refine zC_of (by decide +kernel) (Nat.le_of_ble_eq_true rfl) (fun X C E => zrun_sound t_X9_areTwo C E [] 200 _ _ _ _ ?_)
  repeat' first
    | omega
    | exact And.intro rfl (congrArg (fun z => some (sI z)) (by omega))
    | refine And.intro (by omega) ?_
    | refine And.intro (fun _ => ?_) (fun _ => ?_)
    | refine imp_i (fun _ => ?_)
    | (refine zcall_i (d' := d - 1) (by omega) (c_X9_isPlace (by omega) h _ (by omega) hp) ?_; rintro _ _ ⟨rfl, rfl⟩)
theorem c_X9_isFrom {d : Nat} (hd : 2 ≤ d) (h : zH) (v : Int) (hv : inR v) (hp : 0 ≤ h.1 52 20 ∧ h.1 52 20 ≤ 12) : zC d k_X9_isFrom [sR 52, sI v] h (fun o g => h = g ∧ o = some (sI (if 0 ≤ v ∧ v / 10000 < h.1 52 20 ∧ v % 10000 ≤ 1439 then 1 else 0))) := by
  refine zC_of (by decide +kernel) (Nat.le_of_ble_eq_true rfl) (fun X C E => zrun_sound t_X9_isFrom C E [] 200 _ _ _ _ ?_)
  repeat' first
    | omega
    | exact And.intro rfl (congrArg (fun z => some (sI z)) (by omega))
    | refine And.intro (by omega) ?_
    | refine And.intro (fun _ => ?_) (fun _ => ?_)
    | refine imp_i (fun _ => ?_)
    | (refine zcall_i (d' := d - 1) (by omega) (c_X9_isPlace (by omega) h _ (by omega) hp) ?_; rintro _ _ ⟨rfl, rfl⟩)
    | (refine zcall_i (d' := d - 1) (by omega) (c_X9_isMinute (by omega) h _ (by omega)) ?_; rintro _ _ ⟨rfl, rfl⟩)
theorem c_X9_isSt {d : Nat} (hd : 2 ≤ d) (h : zH) (v : Int) (hv : inR v) (hp : 0 ≤ h.1 52 8 ∧ h.1 52 8 ≤ 10) : zC d k_X9_isSt [sR 52, sI v] h (fun o g => h = g ∧ o = some (sI (if 0 ≤ v ∧ v / 10 ≤ 3 ∧ v % 10 < h.1 52 8 then 1 else 0))) := by
  refine zC_of (by decide +kernel) (Nat.le_of_ble_eq_true rfl) (fun X C E => zrun_sound t_X9_isSt C E [] 200 _ _ _ _ ?_)
  repeat' first
    | omega
    | exact And.intro rfl (congrArg (fun z => some (sI z)) (by omega))
    | refine And.intro (by omega) ?_
    | refine And.intro (fun _ => ?_) (fun _ => ?_)
    | refine imp_i (fun _ => ?_)
    | (refine zcall_i (d' := d - 1) (by omega) (c_X9_isSort (by omega) h _ (by omega)) ?_; rintro _ _ ⟨rfl, rfl⟩)
    | (refine zcall_i (d' := d - 1) (by omega) (c_X9_isTide (by omega) h _ (by omega) hp) ?_; rintro _ _ ⟨rfl, rfl⟩)
theorem pw_in {w : Int} (h0 : 0 ≤ w) (h1 : w ≤ 5) : 1 ≤ ((2 ^ w.toNat : Nat) : Int) ∧ ((2 ^ w.toNat : Nat) : Int) ≤ 32 := by
  have a : 1 ≤ 2 ^ w.toNat := Nat.one_le_two_pow
  have b : 2 ^ w.toNat ≤ 2 ^ 5 := Nat.pow_le_pow_right (by omega) (by omega)
  omega
theorem c_X2_allWinds {d : Nat} (h : zH) (hp : 0 ≤ h.1 2 4 ∧ h.1 2 4 ≤ 5) : zC d k_X2_allWinds [sR 2] h (fun o g => h = g ∧ o = some (sI (((2 ^ (h.1 2 4).toNat : Nat) : Int) - 1))) := by
  refine zC_of (by decide +kernel) (Nat.le_of_ble_eq_true rfl) (fun X C E => zrun_sound t_X2_allWinds C E [] 200 _ _ _ _ ?_)
  exact And.intro rfl (congrArg (fun z => some (sI z)) (by rw [shl32_1 (by omega) (by omega)]))
theorem c_X9_allWinds {d : Nat} (h : zH) (hp : 0 ≤ h.1 52 16 ∧ h.1 52 16 ≤ 5) : zC d k_X9_allWinds [sR 52] h (fun o g => h = g ∧ o = some (sI (((2 ^ (h.1 52 16).toNat : Nat) : Int) - 1))) := by
  refine zC_of (by decide +kernel) (Nat.le_of_ble_eq_true rfl) (fun X C E => zrun_sound t_X9_allWinds C E [] 200 _ _ _ _ ?_)
  exact And.intro rfl (congrArg (fun z => some (sI z)) (by rw [shl32_1 (by omega) (by omega)]))
theorem c_X8_isWinds {d : Nat} (hd : 1 ≤ d) (h : zH) (v : Int) (hv : inR v) (hp : 0 ≤ h.1 2 4 ∧ h.1 2 4 ≤ 5) : zC d k_X8_isWinds [sR 0, sI v] h (fun o g => h = g ∧ o = some (sI (if 1 ≤ v ∧ v < ((2 ^ (h.1 2 4).toNat : Nat) : Int) then 1 else 0))) := by
  refine zC_of (by decide +kernel) (Nat.le_of_ble_eq_true rfl) (fun X C E => zrun_sound t_X8_isWinds C E [] 200 _ _ _ _ ?_)
  have hq := pw_in hp.1 hp.2
  repeat' first
    | omega
    | exact And.intro rfl (congrArg (fun z => some (sI z)) (by omega))
    | refine And.intro (by omega) ?_
    | refine And.intro (fun _ => ?_) (fun _ => ?_)
    | refine imp_i (fun _ => ?_)
    | (refine zcall_i (d' := d - 1) (by omega) (c_X2_allWinds h hp) ?_; rintro _ _ ⟨rfl, rfl⟩)
    | (refine zcall_i (d' := d - 1) (by omega) (c_X8_within h _ _ _ (by omega) (by omega) (by omega)) ?_; rintro _ _ ⟨rfl, rfl⟩)
theorem div_lt1 {x p : Int} (hx : 0 < x) (hp : 1 ≤ p) : x / p = 0 ↔ x < p := by
  constructor
  · intro h
    have := Int.lt_ediv_add_one_mul_self x (show 0 < p by omega)
    rw [h] at this
    omega
  · intro h
    exact Int.ediv_eq_zero_of_lt (by omega) h
theorem c_X9_areWinds {d : Nat} (h : zH) (v : Int) (hv : inR v) (hp : 0 ≤ h.1 52 16 ∧ h.1 52 16 ≤ 5) : zC d k_X9_areWinds [sR 52, sI v] h (fun o g => h = g ∧ o = some (sI (if 1 ≤ v ∧ v < ((2 ^ (h.1 52 16).toNat : Nat) : Int) then 1 else 0))) := by
  refine zC_of (by decide +kernel) (Nat.le_of_ble_eq_true rfl) (fun X C E => zrun_sound t_X9_areWinds C E [] 200 _ _ _ _ ?_)
  have hq := pw_in hp.1 hp.2
  refine And.intro hv (And.intro (fun c => ?_) (fun c => ?_))
  · refine And.intro (Or.inl rfl) (And.intro rfl (congrArg (fun z => some (sI z)) (by omega)))
  · have hd := div_lt1 (x := v) (by omega) hq.1
    have he := shr32_eq hv hp.1 (show h.1 52 16 < 32 by omega)
    refine And.intro (i32_in _) (And.intro (fun c2 => ?_) (fun c2 => ?_))
    · refine And.intro (Or.inl rfl) (And.intro rfl (congrArg (fun z => some (sI z)) ?_))
      have c3 : ¬ shr32 v (h.1 52 16) = 0 := c2
      rw [he, hd] at c3
      omega
    · refine And.intro (Or.inr rfl) (And.intro rfl (congrArg (fun z => some (sI z)) ?_))
      have c3 : shr32 v (h.1 52 16) = 0 := c2
      rw [he, hd] at c3
      omega
