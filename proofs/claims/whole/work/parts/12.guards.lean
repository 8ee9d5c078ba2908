theorem zcall_i {d d' : Nat} {k' : zM} {As : List zV} {h : zH} {kk : Option zV → zH → Prop} {P : zQ} (hd : d' + 1 ≤ d) (hC : zC d' k' As h P) (hk : ∀ o h', P o h' → kk o h') : zcall d k' As h kk := ⟨d', P, hd, hC, hk⟩
theorem i2l_toInt {x : Int} (h : inR x) : (i2l x).toInt = x := by
  unfold i2l
  rw [Int32.toInt_toInt64, i32_toInt h]
theorem l_lt {x y : Int64} : x < y ↔ x.toInt < y.toInt := Int64.lt_iff_toInt_lt
theorem l_eq {x y : Int64} : x = y ↔ x.toInt = y.toInt := Int64.toInt_inj.symm
theorem c_X8_within {d : Nat} (h : zH) (v lo hi : Int) (hv : inR v) (hl : inR lo) (hh : inR hi) : zC d k_X8_within [sI v, sI lo, sI hi] h (fun o g => h = g ∧ o = some (sI (if lo ≤ v ∧ v ≤ hi then 1 else 0))) := by
  refine zC_of (by decide +kernel) (Nat.le_of_ble_eq_true rfl) (fun X C E => zrun_sound t_X8_within C E [] 200 _ _ _ _ ?_)
  repeat' first
    | omega
    | exact And.intro rfl (congrArg (fun z => some (sI z)) (by omega))
    | refine And.intro (by omega) ?_
    | refine And.intro (fun _ => ?_) (fun _ => ?_)
theorem c_X8_isMinute {d : Nat} (hd : 1 ≤ d) (h : zH) (v : Int) (hv : inR v) : zC d k_X8_isMinute [sI v] h (fun o g => h = g ∧ o = some (sI (if 0 ≤ v ∧ v ≤ 1439 then 1 else 0))) := by
  refine zC_of (by decide +kernel) (Nat.le_of_ble_eq_true rfl) (fun X C E => zrun_sound t_X8_isMinute C E [] 200 _ _ _ _ ?_)
  repeat' first
    | omega
    | exact And.intro rfl (congrArg (fun z => some (sI z)) (by omega))
    | refine And.intro (by omega) ?_
    | refine And.intro (fun _ => ?_) (fun _ => ?_)
    | (refine zcall_i (d' := d - 1) (by omega) (c_X8_within h _ _ _ (by omega) (by omega) (by omega)) ?_; rintro _ _ ⟨rfl, rfl⟩)
theorem c_X8_isSort {d : Nat} (hd : 1 ≤ d) (h : zH) (v : Int) (hv : inR v) : zC d k_X8_isSort [sI v] h (fun o g => h = g ∧ o = some (sI (if 0 ≤ v ∧ v ≤ 3 then 1 else 0))) := by
  refine zC_of (by decide +kernel) (Nat.le_of_ble_eq_true rfl) (fun X C E => zrun_sound t_X8_isSort C E [] 200 _ _ _ _ ?_)
  repeat' first
    | omega
    | exact And.intro rfl (congrArg (fun z => some (sI z)) (by omega))
    | refine And.intro (by omega) ?_
    | refine And.intro (fun _ => ?_) (fun _ => ?_)
    | (refine zcall_i (d' := d - 1) (by omega) (c_X8_within h _ _ _ (by omega) (by omega) (by omega)) ?_; rintro _ _ ⟨rfl, rfl⟩)
theorem c_X8_isShelf {d : Nat} (hd : 1 ≤ d) (h : zH) (v : Int) (hv : inR v) : zC d k_X8_isShelf [sI v] h (fun o g => h = g ∧ o = some (sI (if 0 ≤ v ∧ v ≤ 5 then 1 else 0))) := by
  refine zC_of (by decide +kernel) (Nat.le_of_ble_eq_true rfl) (fun X C E => zrun_sound t_X8_isShelf C E [] 200 _ _ _ _ ?_)
  repeat' first
    | omega
    | exact And.intro rfl (congrArg (fun z => some (sI z)) (by omega))
    | refine And.intro (by omega) ?_
    | refine And.intro (fun _ => ?_) (fun _ => ?_)
    | (refine zcall_i (d' := d - 1) (by omega) (c_X8_within h _ _ _ (by omega) (by omega) (by omega)) ?_; rintro _ _ ⟨rfl, rfl⟩)
theorem c_X8_isPlace {d : Nat} (hd : 1 ≤ d) (h : zH) (v : Int) (hv : inR v) (hp : 0 ≤ h.1 2 8 ∧ h.1 2 8 ≤ 12) : zC d k_X8_isPlace [sR 0, sI v] h (fun o g => h = g ∧ o = some (sI (if 0 ≤ v ∧ v < h.1 2 8 then 1 else 0))) := by
  refine zC_of (by decide +kernel) (Nat.le_of_ble_eq_true rfl) (fun X C E => zrun_sound t_X8_isPlace C E [] 200 _ _ _ _ ?_)
  repeat' first
    | omega
    | exact And.intro rfl (congrArg (fun z => some (sI z)) (by omega))
    | refine And.intro (by omega) ?_
    | refine And.intro (fun _ => ?_) (fun _ => ?_)
    | (refine zcall_i (d' := d - 1) (by omega) (c_X8_within h _ _ _ (by omega) (by omega) (by omega)) ?_; rintro _ _ ⟨rfl, rfl⟩)
theorem c_X8_isWay {d : Nat} (hd : 1 ≤ d) (h : zH) (v : Int) (hv : inR v) (hp : 0 ≤ h.1 2 10 ∧ h.1 2 10 ≤ 24) : zC d k_X8_isWay [sR 0, sI v] h (fun o g => h = g ∧ o = some (sI (if 0 ≤ v ∧ v < h.1 2 10 then 1 else 0))) := by
  refine zC_of (by decide +kernel) (Nat.le_of_ble_eq_true rfl) (fun X C E => zrun_sound t_X8_isWay C E [] 200 _ _ _ _ ?_)
  repeat' first
    | omega
    | exact And.intro rfl (congrArg (fun z => some (sI z)) (by omega))
    | refine And.intro (by omega) ?_
    | refine And.intro (fun _ => ?_) (fun _ => ?_)
    | (refine zcall_i (d' := d - 1) (by omega) (c_X8_within h _ _ _ (by omega) (by omega) (by omega)) ?_; rintro _ _ ⟨rfl, rfl⟩)
theorem c_X8_isPair {d : Nat} (hd : 2 ≤ d) (h : zH) (v : Int) (hv : inR v) (hp : 0 ≤ h.1 2 8 ∧ h.1 2 8 ≤ 12) : zC d k_X8_isPair [sR 0, sI v] h (fun o g => h = g ∧ o = some (sI (if 0 ≤ v ∧ v / 100 < h.1 2 8 ∧ v % 100 < h.1 2 8 ∧ v / 100 ≠ v % 100 then 1 else 0))) := by
  refine zC_of (by decide +kernel) (Nat.le_of_ble_eq_true rfl) (fun X C E => zrun_sound t_X8_isPair C E [] 200 _ _ _ _ ?_)
  repeat' first
    | omega
    | exact And.intro rfl (congrArg (fun z => some (sI z)) (by omega))
    | refine And.intro (by omega) ?_
    | refine And.intro (fun _ => ?_) (fun _ => ?_)
    | (refine zcall_i (d' := d - 1) (by omega) (c_X8_isPlace (by omega) h _ (by omega) hp) ?_; rintro _ _ ⟨rfl, rfl⟩)
theorem c_X8_isFrom {d : Nat} (hd : 2 ≤ d) (h : zH) (v : Int) (hv : inR v) (hp : 0 ≤ h.1 2 8 ∧ h.1 2 8 ≤ 12) : zC d k_X8_isFrom [sR 0, sI v] h (fun o g => h = g ∧ o = some (sI (if 0 ≤ v ∧ v / 10000 < h.1 2 8 ∧ v % 10000 ≤ 1439 then 1 else 0))) := by
  refine zC_of (by decide +kernel) (Nat.le_of_ble_eq_true rfl) (fun X C E => zrun_sound t_X8_isFrom C E [] 200 _ _ _ _ ?_)
  repeat' first
    | omega
    | exact And.intro rfl (congrArg (fun z => some (sI z)) (by omega))
    | refine And.intro (by omega) ?_
    | refine And.intro (fun _ => ?_) (fun _ => ?_)
    | (refine zcall_i (d' := d - 1) (by omega) (c_X8_isPlace (by omega) h _ (by omega) hp) ?_; rintro _ _ ⟨rfl, rfl⟩)
    | (refine zcall_i (d' := d - 1) (by omega) (c_X8_isMinute (by omega) h _ (by omega)) ?_; rintro _ _ ⟨rfl, rfl⟩)
theorem c_X8_isSortAndTide {d : Nat} (hd : 2 ≤ d) (h : zH) (v : Int) (hv : inR v) (hp : 0 ≤ h.1 2 0 ∧ h.1 2 0 ≤ 10) : zC d k_X8_isSortAndTide [sR 0, sI v] h (fun o g => h = g ∧ o = some (sI (if 0 ≤ v ∧ v / 10 ≤ 3 ∧ v % 10 < h.1 2 0 then 1 else 0))) := by
  refine zC_of (by decide +kernel) (Nat.le_of_ble_eq_true rfl) (fun X C E => zrun_sound t_X8_isSortAndTide C E [] 200 _ _ _ _ ?_)
  repeat' first
    | omega
    | exact And.intro rfl (congrArg (fun z => some (sI z)) (by omega))
    | refine And.intro (by omega) ?_
    | refine And.intro (fun _ => ?_) (fun _ => ?_)
    | (refine zcall_i (d' := d - 1) (by omega) (c_X8_isSort (by omega) h _ (by omega)) ?_; rintro _ _ ⟨rfl, rfl⟩)
theorem c_X8_isMove {d : Nat} (hd : 2 ≤ d) (h : zH) (v : Int) (hv : inR v) (hp : 0 ≤ h.1 2 10 ∧ h.1 2 10 ≤ 24) : zC d k_X8_isMove [sR 0, sI v] h (fun o g => h = g ∧ o = some (sI (if (0 ≤ v ∧ v < h.1 2 10) ∨ (101 ≤ v ∧ v ≤ 340) then 1 else 0))) := by
  refine zC_of (by decide +kernel) (Nat.le_of_ble_eq_true rfl) (fun X C E => zrun_sound t_X8_isMove C E [] 200 _ _ _ _ ?_)
  repeat' first
    | omega
    | exact And.intro rfl (congrArg (fun z => some (sI z)) (by omega))
    | refine And.intro (by omega) ?_
    | refine And.intro (fun _ => ?_) (fun _ => ?_)
    | (refine zcall_i (d' := d - 1) (by omega) (c_X8_isWay (by omega) h _ (by omega) hp) ?_; rintro _ _ ⟨rfl, rfl⟩)
    | (refine zcall_i (d' := d - 1) (by omega) (c_X8_within h _ _ _ (by omega) (by omega) (by omega)) ?_; rintro _ _ ⟨rfl, rfl⟩)
