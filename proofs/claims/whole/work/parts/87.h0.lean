/-! ===== the start: the law up to its loop ===== -/
def F0i (c i : Nat) : Int32 := ([(fun _ => 0), (fun _ => 0), (fun i => ([0, 0, 0, 0, 1, 0, 0, 0, 0, 0, 0, 0, 0, 0, 0, 0, 0, 0, 0, 1439] : List Int32).getD i 0), (fun i => ([0, 0, 0, (-1)] : List Int32).getD i 0), (fun _ => 0), (fun _ => 0), (fun _ => 0), (fun _ => 0), (fun i => ([(-1)] : List Int32).getD i 0), (fun i => ([(-1)] : List Int32).getD i 0), (fun i => ([(-1)] : List Int32).getD i 0), (fun i => ([(-1)] : List Int32).getD i 0), (fun i => ([(-1)] : List Int32).getD i 0), (fun i => ([(-1)] : List Int32).getD i 0), (fun _ => 0), (fun _ => 0), (fun _ => 0), (fun _ => 0), (fun _ => 0), (fun _ => 0), (fun _ => 0), (fun _ => 0), (fun _ => 0), (fun _ => 0), (upd (fun _ => 0) (0 : Int32).toNatClampNeg 1), (fun _ => 0), (fun _ => 0), (fun _ => 0), (fun _ => 0), (fun _ => 0), (fun _ => 0), (fun _ => 0), (upd (upd (upd (upd (fun _ => 0) (0 : Int32).toNatClampNeg 100) (1 : Int32).toNatClampNeg 80) (2 : Int32).toNatClampNeg 150) (3 : Int32).toNatClampNeg 300), (fun _ => 0), (fun _ => 0), (fun _ => 0), (fun _ => 0), (fun _ => 0), (fun _ => 0), (fun _ => 0), (fun _ => 0), (fun _ => 0), (fun _ => 0), (fun _ => 0), (fun _ => 0), (fun _ => 0), (fun _ => 0), (fun _ => 0), (fun _ => 0), (fun _ => 0), (fun _ => 0), (fun _ => 0), (fun i => ([0, 0, 0, 0, 0, 0, 0, 0, 0, 0, 0, 0, 0, 0, 0, 0, 1, 0, 0, 0, 0, 0, 0, 0, 0, 0, 1439, 0, 0, 0, 0, (-1), (-1), 0, (-1)] : List Int32).getD i 0), (upd (upd (upd (upd (fun _ => 0) (84 : Int32).toNatClampNeg 100) (85 : Int32).toNatClampNeg 80) (86 : Int32).toNatClampNeg 150) (87 : Int32).toNatClampNeg 300), (fun _ => 0), (fun _ => 0), (fun _ => 0), (fun _ => 0), (fun _ => 0), (fun _ => 0), (fun _ => 0), (fun _ => 0), (fun _ => 0), (fun _ => 0), (fun _ => 0), (upd (fun _ => 0) (0 : Int32).toNatClampNeg 1), (fun _ => 0), (fun _ => 0), (fun _ => 0), (fun _ => 0), (fun _ => 0), (fun _ => 0), (fun _ => 0), (fun _ => 0), (fun _ => 0), (fun _ => 0), (fun _ => 0), (fun _ => 0), (upd (upd (upd (upd (upd (upd (fun _ => 0) (0 : Int32).toNatClampNeg (-1)) (1 : Int32).toNatClampNeg (-1)) (2 : Int32).toNatClampNeg (-1)) (3 : Int32).toNatClampNeg (-1)) (4 : Int32).toNatClampNeg (-1)) (5 : Int32).toNatClampNeg (-1)), (fun _ => 0), (fun _ => 0), (fun _ => 0)] : List (Nat → Int32)).getD c (fun _ => 0) i
def h0z : zH := (fun c i => (F0i c i).toInt, fun _ _ => 0)
def kW (A : Nat → Nat) (F : Nat → Nat → Int32) (c i : Nat) (k : Nat × Nat) : Value := match k.1 with
  | 0 => .int (F c i)
  | 1 => .long 0
  | _ => .ref (A k.2)
def mi {α β : Type} (f : Nat → α → β) : Nat → List α → List β
  | _, [] => []
  | n, a :: l => f n a :: mi f (n + 1) l
theorem mi_n {α β : Type} : ∀ (l : List α) (f : Nat → α → β) (n : Nat), l.mapIdx (fun i => f (i + n)) = mi f n l
  | [], f, n => rfl
  | a :: l, f, n => by
    rw [List.mapIdx_cons]
    have e : (fun i => f (i + 1 + n)) = fun i => f (i + (n + 1)) := by
      funext i
      rw [Nat.add_assoc, Nat.add_comm 1 n]
    rw [e, mi_n l f (n + 1), Nat.zero_add]
    rfl
theorem mi_0 {α β : Type} (l : List α) (f : Nat → α → β) : l.mapIdx f = mi f 0 l := mi_n l f 0
def cellW (T : Nat → ClassId) (A : Nat → Nat) (F : Nat → Nat → Int32) (c : Nat) (s : zSh) : va_E := match s.1 with
  | 0 => .inr (s.2.1, mi (fun i k => kW A F c i k) 0 s.2.2)
  | 1 => .inl (T 0, s.2.1, .inl (fun j => F c j))
  | 2 => .inl (T 1, s.2.1, .inr (.inl (fun _ => 0)))
  | 3 => .inl (T 2, s.2.1, .inl (fun j => F c j))
  | _ => .inl (T 3, s.2.1, .inr (.inr (.inr (.inr (fun j => some (A (s.2.2.getD j (2, 0)).2))))))
theorem wld_h0 (T : Nat → ClassId) (A : Nat → Nat) : wld T A h0z = (List.range NC).map (fun c => (A c, cellW T A F0i c (SHP c))) := by
  unfold wld
  apply List.map_congr_left
  intro c _
  have e : cellE T A h0z c (SHP c) = cellW T A F0i c (SHP c) := by
    have ek : ∀ i k, kV A h0z c i k = kW A F0i c i k := fun i k => by
      obtain ⟨k1, k2⟩ := k
      rcases k1 with _ | _ | k1
      · exact congrArg Value.int (i32_of _)
      · rfl
      · rfl
    have ef : (fun j => i32 (h0z.1 c j)) = fun j => F0i c j := by
      funext j
      exact i32_of _
    unfold cellE cellW
    rw [ef]
    simp only [ek, mi_0]
    rfl
  rw [e]
theorem cw_0 (T : Nat → ClassId) (A : Nat → Nat) : (A 0, cellW T A F0i 0 (SHP 0)) = ((A 0, .inr (8, [.ref (A 1), .ref (A 2), .ref (A 3), .ref (A 4), .ref (A 5), .ref (A 6), .ref (A 7), .ref (A 14), .ref (A 15), .int 0])) : Nat × va_E) := rfl
theorem cw_1 (T : Nat → ClassId) (A : Nat → Nat) : (A 1, cellW T A F0i 1 (SHP 1)) = ((A 1, .inr (7, [.ref (A 16), .int 0, .ref (A 17), .ref (A 18), .int 0, .int 0])) : Nat × va_E) := rfl
theorem cw_2 (T : Nat → ClassId) (A : Nat → Nat) : (A 2, cellW T A F0i 2 (SHP 2)) = ((A 2, .inr (2, [.int 0, .ref (A 19), .ref (A 20), .ref (A 21), .int 1, .ref (A 22), .ref (A 23), .ref (A 24), .int 0, .ref (A 25), .int 0, .ref (A 26), .ref (A 27), .ref (A 28), .ref (A 29), .ref (A 30), .ref (A 31), .ref (A 32), .int 0, .int 1439])) : Nat × va_E) := rfl
theorem cw_3 (T : Nat → ClassId) (A : Nat → Nat) : (A 3, cellW T A F0i 3 (SHP 3)) = ((A 3, .inr (4, [.ref (A 2), .ref (A 33), .ref (A 34), .int (-1), .int 0])) : Nat × va_E) := rfl
theorem cw_4 (T : Nat → ClassId) (A : Nat → Nat) : (A 4, cellW T A F0i 4 (SHP 4)) = ((A 4, .inr (5, [.ref (A 2), .ref (A 3), .ref (A 35), .ref (A 36), .ref (A 37), .ref (A 38), .long 0])) : Nat × va_E) := rfl
theorem cw_5 (T : Nat → ClassId) (A : Nat → Nat) : (A 5, cellW T A F0i 5 (SHP 5)) = ((A 5, .inr (3, [.ref (A 2), .ref (A 3), .ref (A 39), .int 0, .int 0, .int 0, .int 0])) : Nat × va_E) := rfl
theorem cw_6 (T : Nat → ClassId) (A : Nat → Nat) : (A 6, cellW T A F0i 6 (SHP 6)) = ((A 6, .inr (1, [.ref (A 2), .ref (A 40), .ref (A 41), .ref (A 42), .ref (A 43), .int 0, .int 0])) : Nat × va_E) := rfl
theorem cw_7 (T : Nat → ClassId) (A : Nat → Nat) : (A 7, cellW T A F0i 7 (SHP 7)) = ((A 7, .inr (0, [.ref (A 44), .int 0, .ref (A 45), .int 0, .int 0])) : Nat × va_E) := rfl
theorem cw_8 (T : Nat → ClassId) (A : Nat → Nat) : (A 8, cellW T A F0i 8 (SHP 8)) = ((A 8, .inr (6, [.int (-1), .int 0, .ref (A 46), .int 0])) : Nat × va_E) := rfl
theorem cw_9 (T : Nat → ClassId) (A : Nat → Nat) : (A 9, cellW T A F0i 9 (SHP 9)) = ((A 9, .inr (6, [.int (-1), .int 0, .ref (A 47), .int 0])) : Nat × va_E) := rfl
theorem cw_10 (T : Nat → ClassId) (A : Nat → Nat) : (A 10, cellW T A F0i 10 (SHP 10)) = ((A 10, .inr (6, [.int (-1), .int 0, .ref (A 48), .int 0])) : Nat × va_E) := rfl
theorem cw_11 (T : Nat → ClassId) (A : Nat → Nat) : (A 11, cellW T A F0i 11 (SHP 11)) = ((A 11, .inr (6, [.int (-1), .int 0, .ref (A 49), .int 0])) : Nat × va_E) := rfl
theorem cw_12 (T : Nat → ClassId) (A : Nat → Nat) : (A 12, cellW T A F0i 12 (SHP 12)) = ((A 12, .inr (6, [.int (-1), .int 0, .ref (A 50), .int 0])) : Nat × va_E) := rfl
theorem cw_13 (T : Nat → ClassId) (A : Nat → Nat) : (A 13, cellW T A F0i 13 (SHP 13)) = ((A 13, .inr (6, [.int (-1), .int 0, .ref (A 51), .int 0])) : Nat × va_E) := rfl
theorem cw_14 (T : Nat → ClassId) (A : Nat → Nat) : (A 14, cellW T A F0i 14 (SHP 14)) = ((A 14, .inl (T 3, 6, .inr (.inr (.inr (.inr (fun j => some (A ([(2, 8), (2, 9), (2, 10), (2, 11), (2, 12), (2, 13)].getD j (2, 0)).2))))))) : Nat × va_E) := rfl
theorem cw_15 (T : Nat → ClassId) (A : Nat → Nat) : (A 15, cellW T A F0i 15 (SHP 15)) = ((A 15, .inl (T 0, 6, .inl (fun _ => 0))) : Nat × va_E) := rfl
theorem cw_16 (T : Nat → ClassId) (A : Nat → Nat) : (A 16, cellW T A F0i 16 (SHP 16)) = ((A 16, .inl (T 0, 120, .inl (fun _ => 0))) : Nat × va_E) := rfl
theorem cw_17 (T : Nat → ClassId) (A : Nat → Nat) : (A 17, cellW T A F0i 17 (SHP 17)) = ((A 17, .inl (T 0, 12, .inl (fun _ => 0))) : Nat × va_E) := rfl
theorem cw_18 (T : Nat → ClassId) (A : Nat → Nat) : (A 18, cellW T A F0i 18 (SHP 18)) = ((A 18, .inl (T 0, 12, .inl (fun _ => 0))) : Nat × va_E) := rfl
theorem cw_19 (T : Nat → ClassId) (A : Nat → Nat) : (A 19, cellW T A F0i 19 (SHP 19)) = ((A 19, .inl (T 0, 10, .inl (fun _ => 0))) : Nat × va_E) := rfl
theorem cw_20 (T : Nat → ClassId) (A : Nat → Nat) : (A 20, cellW T A F0i 20 (SHP 20)) = ((A 20, .inl (T 0, 120, .inl (fun _ => 0))) : Nat × va_E) := rfl
theorem cw_21 (T : Nat → ClassId) (A : Nat → Nat) : (A 21, cellW T A F0i 21 (SHP 21)) = ((A 21, .inl (T 0, 120, .inl (fun _ => 0))) : Nat × va_E) := rfl
theorem cw_22 (T : Nat → ClassId) (A : Nat → Nat) : (A 22, cellW T A F0i 22 (SHP 22)) = ((A 22, .inl (T 0, 5, .inl (fun _ => 0))) : Nat × va_E) := rfl
theorem cw_23 (T : Nat → ClassId) (A : Nat → Nat) : (A 23, cellW T A F0i 23 (SHP 23)) = ((A 23, .inl (T 0, 5, .inl (fun _ => 0))) : Nat × va_E) := rfl
theorem cw_24 (T : Nat → ClassId) (A : Nat → Nat) : (A 24, cellW T A F0i 24 (SHP 24)) = ((A 24, .inl (T 0, 5, .inl (upd (fun _ => 0) (0 : Int32).toNatClampNeg 1))) : Nat × va_E) := rfl
theorem cw_25 (T : Nat → ClassId) (A : Nat → Nat) : (A 25, cellW T A F0i 25 (SHP 25)) = ((A 25, .inl (T 0, 12, .inl (fun _ => 0))) : Nat × va_E) := rfl
theorem cw_26 (T : Nat → ClassId) (A : Nat → Nat) : (A 26, cellW T A F0i 26 (SHP 26)) = ((A 26, .inl (T 0, 24, .inl (fun _ => 0))) : Nat × va_E) := rfl
theorem cw_27 (T : Nat → ClassId) (A : Nat → Nat) : (A 27, cellW T A F0i 27 (SHP 27)) = ((A 27, .inl (T 0, 24, .inl (fun _ => 0))) : Nat × va_E) := rfl
theorem cw_28 (T : Nat → ClassId) (A : Nat → Nat) : (A 28, cellW T A F0i 28 (SHP 28)) = ((A 28, .inl (T 0, 24, .inl (fun _ => 0))) : Nat × va_E) := rfl
theorem cw_29 (T : Nat → ClassId) (A : Nat → Nat) : (A 29, cellW T A F0i 29 (SHP 29)) = ((A 29, .inl (T 0, 24, .inl (fun _ => 0))) : Nat × va_E) := rfl
theorem cw_30 (T : Nat → ClassId) (A : Nat → Nat) : (A 30, cellW T A F0i 30 (SHP 30)) = ((A 30, .inl (T 0, 24, .inl (fun _ => 0))) : Nat × va_E) := rfl
theorem cw_31 (T : Nat → ClassId) (A : Nat → Nat) : (A 31, cellW T A F0i 31 (SHP 31)) = ((A 31, .inl (T 0, 24, .inl (fun _ => 0))) : Nat × va_E) := rfl
theorem cw_32 (T : Nat → ClassId) (A : Nat → Nat) : (A 32, cellW T A F0i 32 (SHP 32)) = ((A 32, .inl (T 0, 4, .inl (upd (upd (upd (upd (fun _ => 0) (0 : Int32).toNatClampNeg 100) (1 : Int32).toNatClampNeg 80) (2 : Int32).toNatClampNeg 150) (3 : Int32).toNatClampNeg 300))) : Nat × va_E) := rfl
theorem cw_33 (T : Nat → ClassId) (A : Nat → Nat) : (A 33, cellW T A F0i 33 (SHP 33)) = ((A 33, .inl (T 0, 1440, .inl (fun _ => 0))) : Nat × va_E) := rfl
theorem cw_34 (T : Nat → ClassId) (A : Nat → Nat) : (A 34, cellW T A F0i 34 (SHP 34)) = ((A 34, .inl (T 0, 1440, .inl (fun _ => 0))) : Nat × va_E) := rfl
theorem cw_35 (T : Nat → ClassId) (A : Nat → Nat) : (A 35, cellW T A F0i 35 (SHP 35)) = ((A 35, .inl (T 1, 1440, .inr (.inl (fun _ => 0)))) : Nat × va_E) := rfl
theorem cw_36 (T : Nat → ClassId) (A : Nat → Nat) : (A 36, cellW T A F0i 36 (SHP 36)) = ((A 36, .inl (T 1, 1440, .inr (.inl (fun _ => 0)))) : Nat × va_E) := rfl
theorem cw_37 (T : Nat → ClassId) (A : Nat → Nat) : (A 37, cellW T A F0i 37 (SHP 37)) = ((A 37, .inl (T 0, 96, .inl (fun _ => 0))) : Nat × va_E) := rfl
theorem cw_38 (T : Nat → ClassId) (A : Nat → Nat) : (A 38, cellW T A F0i 38 (SHP 38)) = ((A 38, .inl (T 0, 24, .inl (fun _ => 0))) : Nat × va_E) := rfl
theorem cw_39 (T : Nat → ClassId) (A : Nat → Nat) : (A 39, cellW T A F0i 39 (SHP 39)) = ((A 39, .inl (T 0, 12, .inl (fun _ => 0))) : Nat × va_E) := rfl
theorem cw_40 (T : Nat → ClassId) (A : Nat → Nat) : (A 40, cellW T A F0i 40 (SHP 40)) = ((A 40, .inl (T 0, 40, .inl (fun _ => 0))) : Nat × va_E) := rfl
theorem cw_41 (T : Nat → ClassId) (A : Nat → Nat) : (A 41, cellW T A F0i 41 (SHP 41)) = ((A 41, .inl (T 0, 40, .inl (fun _ => 0))) : Nat × va_E) := rfl
theorem cw_42 (T : Nat → ClassId) (A : Nat → Nat) : (A 42, cellW T A F0i 42 (SHP 42)) = ((A 42, .inl (T 0, 40, .inl (fun _ => 0))) : Nat × va_E) := rfl
theorem cw_43 (T : Nat → ClassId) (A : Nat → Nat) : (A 43, cellW T A F0i 43 (SHP 43)) = ((A 43, .inl (T 0, 40, .inl (fun _ => 0))) : Nat × va_E) := rfl
theorem cw_44 (T : Nat → ClassId) (A : Nat → Nat) : (A 44, cellW T A F0i 44 (SHP 44)) = ((A 44, .inl (T 0, 50, .inl (fun _ => 0))) : Nat × va_E) := rfl
theorem cw_45 (T : Nat → ClassId) (A : Nat → Nat) : (A 45, cellW T A F0i 45 (SHP 45)) = ((A 45, .inl (T 0, 24, .inl (fun _ => 0))) : Nat × va_E) := rfl
theorem cw_46 (T : Nat → ClassId) (A : Nat → Nat) : (A 46, cellW T A F0i 46 (SHP 46)) = ((A 46, .inl (T 1, 60, .inr (.inl (fun _ => 0)))) : Nat × va_E) := rfl
theorem cw_47 (T : Nat → ClassId) (A : Nat → Nat) : (A 47, cellW T A F0i 47 (SHP 47)) = ((A 47, .inl (T 1, 60, .inr (.inl (fun _ => 0)))) : Nat × va_E) := rfl
theorem cw_48 (T : Nat → ClassId) (A : Nat → Nat) : (A 48, cellW T A F0i 48 (SHP 48)) = ((A 48, .inl (T 1, 60, .inr (.inl (fun _ => 0)))) : Nat × va_E) := rfl
theorem cw_49 (T : Nat → ClassId) (A : Nat → Nat) : (A 49, cellW T A F0i 49 (SHP 49)) = ((A 49, .inl (T 1, 60, .inr (.inl (fun _ => 0)))) : Nat × va_E) := rfl
theorem cw_50 (T : Nat → ClassId) (A : Nat → Nat) : (A 50, cellW T A F0i 50 (SHP 50)) = ((A 50, .inl (T 1, 60, .inr (.inl (fun _ => 0)))) : Nat × va_E) := rfl
theorem cw_51 (T : Nat → ClassId) (A : Nat → Nat) : (A 51, cellW T A F0i 51 (SHP 51)) = ((A 51, .inl (T 1, 60, .inr (.inl (fun _ => 0)))) : Nat × va_E) := rfl
theorem cw_52 (T : Nat → ClassId) (A : Nat → Nat) : (A 52, cellW T A F0i 52 (SHP 52)) = ((A 52, .inr (9, [.ref (A 53), .ref (A 54), .ref (A 55), .ref (A 56), .int 0, .int 0, .ref (A 57), .int 0, .int 0, .ref (A 58), .ref (A 59), .ref (A 60), .ref (A 61), .ref (A 62), .int 0, .int 0, .int 1, .ref (A 63), .ref (A 64), .ref (A 65), .int 0, .int 0, .ref (A 66), .ref (A 67), .ref (A 68), .int 0, .int 1439, .int 0, .ref (A 69), .ref (A 70), .ref (A 71), .int (-1), .int (-1), .int 0, .int (-1), .ref (A 72), .ref (A 73), .int 0, .ref (A 74), .int 0, .int 0, .int 0, .int 0, .ref (A 75), .int 0, .ref (A 76), .ref (A 77), .int 0, .int 0, .int 0, .ref (A 78), .ref (A 79), .ref (A 80), .ref (A 81)])) : Nat × va_E) := rfl
theorem cw_53 (T : Nat → ClassId) (A : Nat → Nat) : (A 53, cellW T A F0i 53 (SHP 53)) = ((A 53, .inl (T 0, 88, .inl (upd (upd (upd (upd (fun _ => 0) (84 : Int32).toNatClampNeg 100) (85 : Int32).toNatClampNeg 80) (86 : Int32).toNatClampNeg 150) (87 : Int32).toNatClampNeg 300))) : Nat × va_E) := rfl
theorem cw_54 (T : Nat → ClassId) (A : Nat → Nat) : (A 54, cellW T A F0i 54 (SHP 54)) = ((A 54, .inl (T 0, 40, .inl (fun _ => 0))) : Nat × va_E) := rfl
theorem cw_55 (T : Nat → ClassId) (A : Nat → Nat) : (A 55, cellW T A F0i 55 (SHP 55)) = ((A 55, .inl (T 0, 40, .inl (fun _ => 0))) : Nat × va_E) := rfl
theorem cw_56 (T : Nat → ClassId) (A : Nat → Nat) : (A 56, cellW T A F0i 56 (SHP 56)) = ((A 56, .inl (T 0, 40, .inl (fun _ => 0))) : Nat × va_E) := rfl
theorem cw_57 (T : Nat → ClassId) (A : Nat → Nat) : (A 57, cellW T A F0i 57 (SHP 57)) = ((A 57, .inl (T 0, 120, .inl (fun _ => 0))) : Nat × va_E) := rfl
theorem cw_58 (T : Nat → ClassId) (A : Nat → Nat) : (A 58, cellW T A F0i 58 (SHP 58)) = ((A 58, .inl (T 0, 10, .inl (fun _ => 0))) : Nat × va_E) := rfl
theorem cw_59 (T : Nat → ClassId) (A : Nat → Nat) : (A 59, cellW T A F0i 59 (SHP 59)) = ((A 59, .inl (T 0, 120, .inl (fun _ => 0))) : Nat × va_E) := rfl
theorem cw_60 (T : Nat → ClassId) (A : Nat → Nat) : (A 60, cellW T A F0i 60 (SHP 60)) = ((A 60, .inl (T 0, 120, .inl (fun _ => 0))) : Nat × va_E) := rfl
theorem cw_61 (T : Nat → ClassId) (A : Nat → Nat) : (A 61, cellW T A F0i 61 (SHP 61)) = ((A 61, .inl (T 0, 12, .inl (fun _ => 0))) : Nat × va_E) := rfl
theorem cw_62 (T : Nat → ClassId) (A : Nat → Nat) : (A 62, cellW T A F0i 62 (SHP 62)) = ((A 62, .inl (T 0, 12, .inl (fun _ => 0))) : Nat × va_E) := rfl
theorem cw_63 (T : Nat → ClassId) (A : Nat → Nat) : (A 63, cellW T A F0i 63 (SHP 63)) = ((A 63, .inl (T 0, 5, .inl (fun _ => 0))) : Nat × va_E) := rfl
theorem cw_64 (T : Nat → ClassId) (A : Nat → Nat) : (A 64, cellW T A F0i 64 (SHP 64)) = ((A 64, .inl (T 0, 5, .inl (fun _ => 0))) : Nat × va_E) := rfl
theorem cw_65 (T : Nat → ClassId) (A : Nat → Nat) : (A 65, cellW T A F0i 65 (SHP 65)) = ((A 65, .inl (T 0, 5, .inl (upd (fun _ => 0) (0 : Int32).toNatClampNeg 1))) : Nat × va_E) := rfl
theorem cw_66 (T : Nat → ClassId) (A : Nat → Nat) : (A 66, cellW T A F0i 66 (SHP 66)) = ((A 66, .inl (T 0, 24, .inl (fun _ => 0))) : Nat × va_E) := rfl
theorem cw_67 (T : Nat → ClassId) (A : Nat → Nat) : (A 67, cellW T A F0i 67 (SHP 67)) = ((A 67, .inl (T 0, 24, .inl (fun _ => 0))) : Nat × va_E) := rfl
theorem cw_68 (T : Nat → ClassId) (A : Nat → Nat) : (A 68, cellW T A F0i 68 (SHP 68)) = ((A 68, .inl (T 0, 24, .inl (fun _ => 0))) : Nat × va_E) := rfl
theorem cw_69 (T : Nat → ClassId) (A : Nat → Nat) : (A 69, cellW T A F0i 69 (SHP 69)) = ((A 69, .inl (T 0, 1440, .inl (fun _ => 0))) : Nat × va_E) := rfl
theorem cw_70 (T : Nat → ClassId) (A : Nat → Nat) : (A 70, cellW T A F0i 70 (SHP 70)) = ((A 70, .inl (T 0, 34584, .inl (fun _ => 0))) : Nat × va_E) := rfl
theorem cw_71 (T : Nat → ClassId) (A : Nat → Nat) : (A 71, cellW T A F0i 71 (SHP 71)) = ((A 71, .inl (T 2, 17280, .inl (fun _ => 0))) : Nat × va_E) := rfl
theorem cw_72 (T : Nat → ClassId) (A : Nat → Nat) : (A 72, cellW T A F0i 72 (SHP 72)) = ((A 72, .inl (T 2, 69120, .inl (fun _ => 0))) : Nat × va_E) := rfl
theorem cw_73 (T : Nat → ClassId) (A : Nat → Nat) : (A 73, cellW T A F0i 73 (SHP 73)) = ((A 73, .inl (T 2, 17280, .inl (fun _ => 0))) : Nat × va_E) := rfl
theorem cw_74 (T : Nat → ClassId) (A : Nat → Nat) : (A 74, cellW T A F0i 74 (SHP 74)) = ((A 74, .inl (T 0, 12, .inl (fun _ => 0))) : Nat × va_E) := rfl
theorem cw_75 (T : Nat → ClassId) (A : Nat → Nat) : (A 75, cellW T A F0i 75 (SHP 75)) = ((A 75, .inl (T 0, 6, .inl (fun _ => 0))) : Nat × va_E) := rfl
theorem cw_76 (T : Nat → ClassId) (A : Nat → Nat) : (A 76, cellW T A F0i 76 (SHP 76)) = ((A 76, .inl (T 0, 50, .inl (fun _ => 0))) : Nat × va_E) := rfl
theorem cw_77 (T : Nat → ClassId) (A : Nat → Nat) : (A 77, cellW T A F0i 77 (SHP 77)) = ((A 77, .inl (T 0, 24, .inl (fun _ => 0))) : Nat × va_E) := rfl
theorem cw_78 (T : Nat → ClassId) (A : Nat → Nat) : (A 78, cellW T A F0i 78 (SHP 78)) = ((A 78, .inl (T 0, 6, .inl (upd (upd (upd (upd (upd (upd (fun _ => 0) (0 : Int32).toNatClampNeg (-1)) (1 : Int32).toNatClampNeg (-1)) (2 : Int32).toNatClampNeg (-1)) (3 : Int32).toNatClampNeg (-1)) (4 : Int32).toNatClampNeg (-1)) (5 : Int32).toNatClampNeg (-1)))) : Nat × va_E) := rfl
theorem cw_79 (T : Nat → ClassId) (A : Nat → Nat) : (A 79, cellW T A F0i 79 (SHP 79)) = ((A 79, .inl (T 0, 6, .inl (fun _ => 0))) : Nat × va_E) := rfl
theorem cw_80 (T : Nat → ClassId) (A : Nat → Nat) : (A 80, cellW T A F0i 80 (SHP 80)) = ((A 80, .inl (T 1, 360, .inr (.inl (fun _ => 0)))) : Nat × va_E) := rfl
theorem cw_81 (T : Nat → ClassId) (A : Nat → Nat) : (A 81, cellW T A F0i 81 (SHP 81)) = ((A 81, .inl (T 1, 60, .inr (.inl (fun _ => 0)))) : Nat × va_E) := rfl
theorem e14 (cA : ClassId) (A : Nat → Nat) : vp_cell cA (6, .inr (.inr (.inr (.inr (va_up (va_up (va_up (va_up (va_up (va_up (fun _ => none) (0 : Int32).toNatClampNeg (some (A 8))) (1 : Int32).toNatClampNeg (some (A 9))) (2 : Int32).toNatClampNeg (some (A 10))) (3 : Int32).toNatClampNeg (some (A 11))) (4 : Int32).toNatClampNeg (some (A 12))) (5 : Int32).toNatClampNeg (some (A 13))))))) = vp_cell cA (6, .inr (.inr (.inr (.inr (fun j => some (A ([(2, 8), (2, 9), (2, 10), (2, 11), (2, 12), (2, 13)].getD j (2, 0)).2)))))) := rfl
def wE (T : Nat → ClassId) (A : Nat → Nat) : va_W := [(A 0, .inr (8, [.ref (A 1), .ref (A 2), .ref (A 3), .ref (A 4), .ref (A 5), .ref (A 6), .ref (A 7), .ref (A 14), .ref (A 15), .int 0])), (A 1, .inr (7, [.ref (A 16), .int 0, .ref (A 17), .ref (A 18), .int 0, .int 0])), (A 2, .inr (2, [.int 0, .ref (A 19), .ref (A 20), .ref (A 21), .int 1, .ref (A 22), .ref (A 23), .ref (A 24), .int 0, .ref (A 25), .int 0, .ref (A 26), .ref (A 27), .ref (A 28), .ref (A 29), .ref (A 30), .ref (A 31), .ref (A 32), .int 0, .int 1439])), (A 3, .inr (4, [.ref (A 2), .ref (A 33), .ref (A 34), .int (-1), .int 0])), (A 4, .inr (5, [.ref (A 2), .ref (A 3), .ref (A 35), .ref (A 36), .ref (A 37), .ref (A 38), .long 0])), (A 5, .inr (3, [.ref (A 2), .ref (A 3), .ref (A 39), .int 0, .int 0, .int 0, .int 0])), (A 6, .inr (1, [.ref (A 2), .ref (A 40), .ref (A 41), .ref (A 42), .ref (A 43), .int 0, .int 0])), (A 7, .inr (0, [.ref (A 44), .int 0, .ref (A 45), .int 0, .int 0])), (A 8, .inr (6, [.int (-1), .int 0, .ref (A 46), .int 0])), (A 9, .inr (6, [.int (-1), .int 0, .ref (A 47), .int 0])), (A 10, .inr (6, [.int (-1), .int 0, .ref (A 48), .int 0])), (A 11, .inr (6, [.int (-1), .int 0, .ref (A 49), .int 0])), (A 12, .inr (6, [.int (-1), .int 0, .ref (A 50), .int 0])), (A 13, .inr (6, [.int (-1), .int 0, .ref (A 51), .int 0])), (A 14, .inl (T 3, 6, .inr (.inr (.inr (.inr (fun j => some (A ([(2, 8), (2, 9), (2, 10), (2, 11), (2, 12), (2, 13)].getD j (2, 0)).2))))))), (A 15, .inl (T 0, 6, .inl (fun _ => 0))), (A 16, .inl (T 0, 120, .inl (fun _ => 0))), (A 17, .inl (T 0, 12, .inl (fun _ => 0))), (A 18, .inl (T 0, 12, .inl (fun _ => 0))), (A 19, .inl (T 0, 10, .inl (fun _ => 0))), (A 20, .inl (T 0, 120, .inl (fun _ => 0))), (A 21, .inl (T 0, 120, .inl (fun _ => 0))), (A 22, .inl (T 0, 5, .inl (fun _ => 0))), (A 23, .inl (T 0, 5, .inl (fun _ => 0))), (A 24, .inl (T 0, 5, .inl (upd (fun _ => 0) (0 : Int32).toNatClampNeg 1))), (A 25, .inl (T 0, 12, .inl (fun _ => 0))), (A 26, .inl (T 0, 24, .inl (fun _ => 0))), (A 27, .inl (T 0, 24, .inl (fun _ => 0))), (A 28, .inl (T 0, 24, .inl (fun _ => 0))), (A 29, .inl (T 0, 24, .inl (fun _ => 0))), (A 30, .inl (T 0, 24, .inl (fun _ => 0))), (A 31, .inl (T 0, 24, .inl (fun _ => 0))), (A 32, .inl (T 0, 4, .inl (upd (upd (upd (upd (fun _ => 0) (0 : Int32).toNatClampNeg 100) (1 : Int32).toNatClampNeg 80) (2 : Int32).toNatClampNeg 150) (3 : Int32).toNatClampNeg 300))), (A 33, .inl (T 0, 1440, .inl (fun _ => 0))), (A 34, .inl (T 0, 1440, .inl (fun _ => 0))), (A 35, .inl (T 1, 1440, .inr (.inl (fun _ => 0)))), (A 36, .inl (T 1, 1440, .inr (.inl (fun _ => 0)))), (A 37, .inl (T 0, 96, .inl (fun _ => 0))), (A 38, .inl (T 0, 24, .inl (fun _ => 0))), (A 39, .inl (T 0, 12, .inl (fun _ => 0))), (A 40, .inl (T 0, 40, .inl (fun _ => 0))), (A 41, .inl (T 0, 40, .inl (fun _ => 0))), (A 42, .inl (T 0, 40, .inl (fun _ => 0))), (A 43, .inl (T 0, 40, .inl (fun _ => 0))), (A 44, .inl (T 0, 50, .inl (fun _ => 0))), (A 45, .inl (T 0, 24, .inl (fun _ => 0))), (A 46, .inl (T 1, 60, .inr (.inl (fun _ => 0)))), (A 47, .inl (T 1, 60, .inr (.inl (fun _ => 0)))), (A 48, .inl (T 1, 60, .inr (.inl (fun _ => 0)))), (A 49, .inl (T 1, 60, .inr (.inl (fun _ => 0)))), (A 50, .inl (T 1, 60, .inr (.inl (fun _ => 0)))), (A 51, .inl (T 1, 60, .inr (.inl (fun _ => 0)))), (A 52, .inr (9, [.ref (A 53), .ref (A 54), .ref (A 55), .ref (A 56), .int 0, .int 0, .ref (A 57), .int 0, .int 0, .ref (A 58), .ref (A 59), .ref (A 60), .ref (A 61), .ref (A 62), .int 0, .int 0, .int 1, .ref (A 63), .ref (A 64), .ref (A 65), .int 0, .int 0, .ref (A 66), .ref (A 67), .ref (A 68), .int 0, .int 1439, .int 0, .ref (A 69), .ref (A 70), .ref (A 71), .int (-1), .int (-1), .int 0, .int (-1), .ref (A 72), .ref (A 73), .int 0, .ref (A 74), .int 0, .int 0, .int 0, .int 0, .ref (A 75), .int 0, .ref (A 76), .ref (A 77), .int 0, .int 0, .int 0, .ref (A 78), .ref (A 79), .ref (A 80), .ref (A 81)])), (A 53, .inl (T 0, 88, .inl (upd (upd (upd (upd (fun _ => 0) (84 : Int32).toNatClampNeg 100) (85 : Int32).toNatClampNeg 80) (86 : Int32).toNatClampNeg 150) (87 : Int32).toNatClampNeg 300))), (A 54, .inl (T 0, 40, .inl (fun _ => 0))), (A 55, .inl (T 0, 40, .inl (fun _ => 0))), (A 56, .inl (T 0, 40, .inl (fun _ => 0))), (A 57, .inl (T 0, 120, .inl (fun _ => 0))), (A 58, .inl (T 0, 10, .inl (fun _ => 0))), (A 59, .inl (T 0, 120, .inl (fun _ => 0))), (A 60, .inl (T 0, 120, .inl (fun _ => 0))), (A 61, .inl (T 0, 12, .inl (fun _ => 0))), (A 62, .inl (T 0, 12, .inl (fun _ => 0))), (A 63, .inl (T 0, 5, .inl (fun _ => 0))), (A 64, .inl (T 0, 5, .inl (fun _ => 0))), (A 65, .inl (T 0, 5, .inl (upd (fun _ => 0) (0 : Int32).toNatClampNeg 1))), (A 66, .inl (T 0, 24, .inl (fun _ => 0))), (A 67, .inl (T 0, 24, .inl (fun _ => 0))), (A 68, .inl (T 0, 24, .inl (fun _ => 0))), (A 69, .inl (T 0, 1440, .inl (fun _ => 0))), (A 70, .inl (T 0, 34584, .inl (fun _ => 0))), (A 71, .inl (T 2, 17280, .inl (fun _ => 0))), (A 72, .inl (T 2, 69120, .inl (fun _ => 0))), (A 73, .inl (T 2, 17280, .inl (fun _ => 0))), (A 74, .inl (T 0, 12, .inl (fun _ => 0))), (A 75, .inl (T 0, 6, .inl (fun _ => 0))), (A 76, .inl (T 0, 50, .inl (fun _ => 0))), (A 77, .inl (T 0, 24, .inl (fun _ => 0))), (A 78, .inl (T 0, 6, .inl (upd (upd (upd (upd (upd (upd (fun _ => 0) (0 : Int32).toNatClampNeg (-1)) (1 : Int32).toNatClampNeg (-1)) (2 : Int32).toNatClampNeg (-1)) (3 : Int32).toNatClampNeg (-1)) (4 : Int32).toNatClampNeg (-1)) (5 : Int32).toNatClampNeg (-1)))), (A 79, .inl (T 0, 6, .inl (fun _ => 0))), (A 80, .inl (T 1, 360, .inr (.inl (fun _ => 0)))), (A 81, .inl (T 1, 60, .inr (.inl (fun _ => 0))))]
theorem cons_c {α : Type} {a b : α} {l m : List α} (h : a = b) (h2 : l = m) : a :: l = b :: m := by rw [h, h2]
theorem wld_E (T : Nat → ClassId) (A : Nat → Nat) : wld T A h0z = wE T A := by
  rw [wld_h0]
  show [0, 1, 2, 3, 4, 5, 6, 7, 8, 9, 10, 11, 12, 13, 14, 15, 16, 17, 18, 19, 20, 21, 22, 23, 24, 25, 26, 27, 28, 29, 30, 31, 32, 33, 34, 35, 36, 37, 38, 39, 40, 41, 42, 43, 44, 45, 46, 47, 48, 49, 50, 51, 52, 53, 54, 55, 56, 57, 58, 59, 60, 61, 62, 63, 64, 65, 66, 67, 68, 69, 70, 71, 72, 73, 74, 75, 76, 77, 78, 79, 80, 81].map (fun c => (A c, cellW T A F0i c (SHP c))) = wE T A
  exact cons_c (cw_0 T A) (cons_c (cw_1 T A) (cons_c (cw_2 T A) (cons_c (cw_3 T A) (cons_c (cw_4 T A) (cons_c (cw_5 T A) (cons_c (cw_6 T A) (cons_c (cw_7 T A) (cons_c (cw_8 T A) (cons_c (cw_9 T A) (cons_c (cw_10 T A) (cons_c (cw_11 T A) (cons_c (cw_12 T A) (cons_c (cw_13 T A) (cons_c (cw_14 T A) (cons_c (cw_15 T A) (cons_c (cw_16 T A) (cons_c (cw_17 T A) (cons_c (cw_18 T A) (cons_c (cw_19 T A) (cons_c (cw_20 T A) (cons_c (cw_21 T A) (cons_c (cw_22 T A) (cons_c (cw_23 T A) (cons_c (cw_24 T A) (cons_c (cw_25 T A) (cons_c (cw_26 T A) (cons_c (cw_27 T A) (cons_c (cw_28 T A) (cons_c (cw_29 T A) (cons_c (cw_30 T A) (cons_c (cw_31 T A) (cons_c (cw_32 T A) (cons_c (cw_33 T A) (cons_c (cw_34 T A) (cons_c (cw_35 T A) (cons_c (cw_36 T A) (cons_c (cw_37 T A) (cons_c (cw_38 T A) (cons_c (cw_39 T A) (cons_c (cw_40 T A) (cons_c (cw_41 T A) (cons_c (cw_42 T A) (cons_c (cw_43 T A) (cons_c (cw_44 T A) (cons_c (cw_45 T A) (cons_c (cw_46 T A) (cons_c (cw_47 T A) (cons_c (cw_48 T A) (cons_c (cw_49 T A) (cons_c (cw_50 T A) (cons_c (cw_51 T A) (cons_c (cw_52 T A) (cons_c (cw_53 T A) (cons_c (cw_54 T A) (cons_c (cw_55 T A) (cons_c (cw_56 T A) (cons_c (cw_57 T A) (cons_c (cw_58 T A) (cons_c (cw_59 T A) (cons_c (cw_60 T A) (cons_c (cw_61 T A) (cons_c (cw_62 T A) (cons_c (cw_63 T A) (cons_c (cw_64 T A) (cons_c (cw_65 T A) (cons_c (cw_66 T A) (cons_c (cw_67 T A) (cons_c (cw_68 T A) (cons_c (cw_69 T A) (cons_c (cw_70 T A) (cons_c (cw_71 T A) (cons_c (cw_72 T A) (cons_c (cw_73 T A) (cons_c (cw_74 T A) (cons_c (cw_75 T A) (cons_c (cw_76 T A) (cons_c (cw_77 T A) (cons_c (cw_78 T A) (cons_c (cw_79 T A) (cons_c (cw_80 T A) (cons_c (cw_81 T A) (rfl))))))))))))))))))))))))))))))))))))))))))))))))))))))))))))))))))))))))))))))))))
theorem Inv_h0 : Inv2 h0z := by
  have n2 : h0z.1 2 0 = 0 := by decide +kernel
  have n4 : h0z.1 2 4 = 1 := by decide +kernel
  have n10 : h0z.1 2 10 = 0 := by decide +kernel
  have n53 : h0z.1 5 3 = 0 := by decide +kernel
  have n66 : h0z.1 6 6 = 0 := by decide +kernel
  have n09 : h0z.1 0 9 = 0 := by decide +kernel
  have n71 : h0z.1 7 1 = 0 := by decide +kernel
  have n73 : h0z.1 7 3 = 0 := by decide +kernel
  refine ⟨⟨⟨by unfold Vn; decide +kernel, fun t ht => absurd ht (by omega), fun w hw => ?_, by unfold Vp; decide +kernel, fun w hw => absurd hw (by omega), by unfold Vh; decide +kernel, by unfold Vs; decide +kernel⟩, by unfold Ieq; decide +kernel, Or.inl (by decide +kernel), by unfold Itape; decide +kernel, ⟨by decide +kernel, by decide +kernel, fun i hi => absurd hi (by omega)⟩, ⟨by decide +kernel, by decide +kernel, by decide +kernel, fun i hi => absurd hi (by omega)⟩, ⟨by decide +kernel, by decide +kernel, fun i hi => absurd hi (by omega), fun i hi => absurd hi (by omega)⟩, ⟨by decide +kernel, by decide +kernel, fun i hi => absurd hi (by omega), by decide +kernel, by decide +kernel, fun i _ hi => absurd hi (by omega)⟩, fun k hk => Or.inl ?_, by unfold Imisc; decide +kernel⟩, by decide +kernel⟩
  · have : w = 0 := by omega
    subst this
    decide +kernel
  · rcases (by omega : k = 0 ∨ k = 1 ∨ k = 2 ∨ k = 3 ∨ k = 4 ∨ k = 5) with rfl | rfl | rfl | rfl | rfl | rfl <;> decide +kernel
