/-! ===== the constructors ===== -/
theorem q1_20 : Cond.instanceMethod objectInit ∈ BIG := bg1 20 (by decide +kernel) rfl
set_option maxRecDepth 20000 in
theorem q1_21 : Cond.code objectInit ⟨#[0xb1]⟩ 1 none ∈ BIG := bg1 21 rfl rfl
theorem q1_51 : Cond.arrayClass .int ∈ BIG := bg1 51 (by decide +kernel) rfl
theorem q1_198 : Cond.arrayClass .long ∈ BIG := bg1 198 (by decide +kernel) rfl
theorem q5_34 : Cond.arrayClass .boolean ∈ BIG := bg5 34 (by decide +kernel) rfl
theorem q2_21 : Cond.instantiable RX0 5 ∈ BIG := bg2 21 (by decide +kernel) rfl
theorem q1_231 : Cond.instantiable RX1 7 ∈ BIG := bg1 231 (by decide +kernel) rfl
theorem q1_53 : Cond.instantiable RX2 20 ∈ BIG := bg1 53 (by decide +kernel) rfl
theorem q1_200 : Cond.instantiable RX3 7 ∈ BIG := bg1 200 (by decide +kernel) rfl
theorem q1_148 : Cond.instantiable RX4 5 ∈ BIG := bg1 148 (by decide +kernel) rfl
theorem q1_171 : Cond.instantiable RX5 7 ∈ BIG := bg1 171 (by decide +kernel) rfl
theorem q2_48 : Cond.instantiable RX6 4 ∈ BIG := bg2 48 (by decide +kernel) rfl
theorem q1_23 : Cond.instantiable RX7 6 ∈ BIG := bg1 23 (by decide +kernel) rfl
theorem q1_15 : Cond.instantiable RX8 10 ∈ BIG := bg1 15 (by decide +kernel) rfl
theorem q4_104 : Cond.instantiable RX9 54 ∈ BIG := bg4 104 (by decide +kernel) rfl
abbrev iPre (D : va_G) (T : Nat → ClassId) (w : va_W) (sz : Nat) : State → Prop := fun U => U.heap.size = sz ∧ va_P D vwCl w U.heap ∧ va_K D vwCl (tysT T) U ∧ va_D (fun _ => True) w
theorem iblind {D : va_G} {T : Nat → ClassId} {w : va_W} {sz : Nat} {av : List Value} : FrameBlind (va_Pc av (iPre D T w sz)) := fun a U g mk q => by
  obtain ⟨q0, q1, qP, qK, qD⟩ := q
  exact ⟨q0, q1, qP, va_K.moved (u := U) (U := U.calling g mk a) (Vm.Alike.refl U.vm) qK, qD⟩
abbrev pre8 (D : va_G) (T : Nat → ClassId) (w : va_W) (sz : Nat) : State → Prop := fun U => iPre D T w sz U ∧ va_AO RX6 U ∧ va_Nw (.methodLinkNest RX8 9 yX7_init RX8) U ∧ va_Nw (.methodLinkNest RX8 57 yX0_init RX8) U ∧ va_Nw (.methodLinkNest RX8 72 yX6_init RX8) U
theorem iblind8 {D : va_G} {T : Nat → ClassId} {w : va_W} {sz : Nat} {av : List Value} : FrameBlind (va_Pc av (pre8 D T w sz)) := fun a U g mk q => by
  obtain ⟨q0, ⟨q1, qP, qK, qD⟩, r1, r2, r3, r4⟩ := q
  exact ⟨q0, ⟨q1, qP, va_K.moved (u := U) (U := U.calling g mk a) (Vm.Alike.refl U.vm) qK, qD⟩, va_AO.moved (u := U) (U := U.calling g mk a) (Vm.Alike.refl U.vm) r1, va_Nw.same rfl (u := U) (U := U.calling g mk a) rfl r2, va_Nw.same rfl (u := U) (U := U.calling g mk a) rfl r3, va_Nw.same rfl (u := U) (U := U.calling g mk a) rfl r4⟩
section ZI
variable {p : Program} {l : Launch} {e : Env} {R : Room} {s : State} {m : MethodId} {args : Array Value} {below : List Frame} {meth : Method} {c : Code} {H : Heap} {locs : List Loc} {cells slots : Nat} {Q : State → Prop}
variable {cc : ByteArray} {pc : Nat} {ls : Array Slot} {rest : List Value} {A : Nat → Prop} {H0 : Heap} {ws : va_W} {D : va_G} {T : Nat → ClassId}
theorem zi_newa (hexec : p.tables.exec = Jvm.exec) (hb : c.code = cc) {atype : ArrayType} (harr : (Cond.arrayClass (newarray.typeOf atype)).before args s = true) {ty : FieldType} (hty : newarray.typeOf atype = ty) {t0 : Nat} (ht : (tysT T)[t0]? = some (T t0, ty)) (hra : ∀ cA : ClassId, va_RA s cA ty → s.vm.findClass ("[" ++ ty.toString) = some cA) (hK : va_K D vwCl (tysT T) s) (hP : va_P D vwCl ws H) (hD : va_D A ws) (hS : va_S A H0 H locs) (hA : ∀ q, H0.size ≤ q → A q)
    {n : Int32} {N' : Nat} {a0 : vp_A} (ha : ∀ cA : ClassId, vp_cell cA a0 = arrV cA N' (fun _ => defaultValue ty)) (hn : ¬ n < 0) (hN : n.toNatClampNeg = N') (hbytes : N' * componentBytes ty ≤ 536870912) (hcells : cells + 1 ≤ R.cells) (hslots : slots + N' ≤ R.slots) (hdg : decode cc pc = .ok (.newarray atype, 2))
    (kk : ∀ (q : Nat) (H1 : Heap), va_P D vwCl (ws ++ [(q, .inl (T t0, a0))]) H1 → va_D A (ws ++ [(q, .inl (T t0, a0))]) → va_S A H0 H1 locs →
      W p l e R s m args below meth c H1 locs (cells + 1) (slots + N') Q (F0 m (pc + 2) ls (.ref q :: rest))) : W p l e R s m args below meth c H locs cells slots Q (F0 m pc ls (.int n :: rest)) := by
  refine va_newa hexec hb harr hty hK hP hD hS hA ha hn hN hbytes hcells hslots hdg (fun q cA H1 hK1 hP1 hD1 hS1 => ?_)
  have e1 := hra cA (hK1.2 4 (cA, ty) rfl).2
  have e2 := hra (T t0) (hK.2 t0 _ ht).2
  have e : cA = T t0 := Option.some.inj (e1.symm.trans e2)
  subst e
  exact kk q H1 hP1 hD1 hS1
theorem zi_newq (hexec : p.tables.exec = Jvm.exec) (hb : c.code = cc) {own : String} {index : Nat} (hown : s.vm.findClass own = some m.cls) (hclink : (Cond.classLink own index RX6).before args s = true) (hover : va_AO RX6 s) (hK : va_K D vwCl (tysT T) s) (hP : va_P D vwCl ws H) (hD : va_D A ws) (hS : va_S A H0 H locs) (hA : ∀ q, H0.size ≤ q → A q)
    {n : Int32} {N' : Nat} (hn : ¬ n < 0) (hN : n.toNatClampNeg = N') (hbytes : N' * 4 ≤ 536870912) (hcells : cells + 1 ≤ R.cells) (hslots : slots + N' ≤ R.slots) (hdg : decode cc pc = .ok (.anewarray index, 3))
    (kk : ∀ (q : Nat) (H1 : Heap), va_P D vwCl (ws ++ [(q, .inl (T 3, N', .inr (.inr (.inr (.inr (fun _ => none))))))]) H1 → va_D A (ws ++ [(q, .inl (T 3, N', .inr (.inr (.inr (.inr (fun _ => none))))))]) → va_S A H0 H1 locs →
      W p l e R s m args below meth c H1 locs (cells + 1) (slots + N') Q (F0 m (pc + 3) ls (.ref q :: rest))) : W p l e R s m args below meth c H locs cells slots Q (F0 m pc ls (.int n :: rest)) := by
  refine va_newq hexec hb hown hclink hover hK hP hD hS hA hn hN hbytes hcells hslots hdg (fun q cA H1 hK1 hP1 hD1 hS1 => ?_)
  obtain ⟨k1, c1, -, -, -, e1⟩ := (hK1.2 4 (cA, .object RX6) rfl).2
  obtain ⟨k2, c2, -, -, -, e2⟩ := (hK.2 3 (T 3, .object RX6) rfl).2
  have e : cA = T 3 := Option.some.inj (e1.symm.trans e2)
  subst e
  exact kk q H1 hP1 hD1 hS1
end ZI
theorem di_X0_init_0 : decode cX0_init 0 = .ok (.aload_n 0, 1) := by decide +kernel
theorem di_X0_init_1 : decode cX0_init 1 = .ok (.invokespecial 3, 3) := by decide +kernel
theorem di_X0_init_4 : decode cX0_init 4 = .ok (.aload_n 0, 1) := by decide +kernel
theorem di_X0_init_5 : decode cX0_init 5 = .ok (.bipush 50, 2) := by decide +kernel
theorem di_X0_init_7 : decode cX0_init 7 = .ok (.newarray .int, 2) := by decide +kernel
theorem di_X0_init_9 : decode cX0_init 9 = .ok (.putfield 9, 3) := by decide +kernel
theorem di_X0_init_12 : decode cX0_init 12 = .ok (.aload_n 0, 1) := by decide +kernel
theorem di_X0_init_13 : decode cX0_init 13 = .ok (.bipush 24, 2) := by decide +kernel
theorem di_X0_init_15 : decode cX0_init 15 = .ok (.newarray .int, 2) := by decide +kernel
theorem di_X0_init_17 : decode cX0_init 17 = .ok (.putfield 15, 3) := by decide +kernel
theorem di_X0_init_20 : decode cX0_init 20 = .ok (.return_, 1) := by decide +kernel
def k_X0_init : zM := (yX0_init, cX0_init, 1, none)
set_option maxHeartbeats 16000000 in
set_option maxRecDepth 100000 in
theorem i_X0_init (l : Launch) (D : va_G) (T : Nat → ClassId) (h0 sz : Nat) : Met l yX0_init (zws k_X0_init) ({ frames := 1, cells := 2, slots := 74, locals := 12 }) (va_Pc [.ref h0] (iPre D T [(h0, .inr (0, [.null, .int 0, .null, .int 0, .int 0]))] sz)) (va_Qv (fun _ : Nat → Nat => True) (fun u t => va_P D vwCl [(h0, .inr (0, [.ref (u 0), .int 0, .ref (u 1), .int 0, .int 0])), ((u 0), .inl (T 0, 50, .inl (fun _ => 0))), ((u 1), .inl (T 0, 24, .inl (fun _ => 0)))] t.heap ∧ va_K D vwCl (tysT T) t ∧ va_D (va_A [(h0, .inr (0, [.null, .int 0, .null, .int 0, .int 0]))] sz) [(h0, .inr (0, [.ref (u 0), .int 0, .ref (u 1), .int 0, .int 0])), ((u 0), .inl (T 0, 50, .inl (fun _ => 0))), ((u 1), .inl (T 0, 24, .inl (fun _ => 0)))]) (va_A [(h0, .inr (0, [.null, .int 0, .null, .int 0, .int 0]))] sz)) 2 74 (va_A [(h0, .inr (0, [.null, .int 0, .null, .int 0, .int 0]))] sz) := by
  refine Met.ofW (cc := cX0_init) (maxL := 1) (ret := none) (by decide) rfl ?_
  intro p e s m args below meth c s₁ B hml hv
  obtain ⟨rfl, hsz, hP, hK, hD0⟩ := hv
  have hx := B.exec
  have hb := B.bytes
  have hr := B.returns
  have hts0 := atoms_spec (ws := zws k_X0_init) B.pre
  have hts : ∀ w ∈ BIG, w.before _ s = true := fun w hw => hts0 w (List.mem_cons_of_mem _ hw)
  have hown : s.vm.findClass RX0 = some m.cls := findClass_of_methodNamed B.named
  have hlocks := B.notSynchronized
  have hin : meth.name = "<init>" := (name_of_methodNamed B.named B.method).1
  clear hts0
  subst hsz
  have hD := hD0.self (sz := s.heap.size)
  generalize hAe : va_A [(h0, .inr (0, [.null, .int 0, .null, .int 0, .int 0]))] s.heap.size = A at hD ⊢
  have hA : ∀ q : Nat, s.heap.size ≤ q → A q := fun q h => by rw [← hAe]; exact Or.inr h
  have hS : va_S A s.heap s.heap [] := va_S.rf
  have hl := lv_entry ([.ref h0]) (n := 1) (Nat.le_of_ble_eq_true rfl)
  rw [lg_entry_eq]
  generalize (lg_sl ([.ref h0]) ++ List.replicate (1 - (lg_sl ([.ref h0])).length) Slot.unset).toArray = ls at hl ⊢
  have hl : lv_has ls 1 [(0, .ref h0)] := hl
  refine lv_aload_n hx hb di_X0_init_0 rfl (lv_at hl 0 rfl) ?_
  refine W.objInit hx hb hown (hts _ q2_25) (hts _ q1_20) (hts _ q1_21) rfl (by rw [hml]; exact hl.1) rfl di_X0_init_1 (Nat.le_of_ble_eq_true rfl) (Nat.le_of_ble_eq_true rfl) ?_
  refine W.eq (g2 := F0 m 4 ls []) rfl ?_
  refine lv_aload_n hx hb di_X0_init_4 rfl (lv_at hl 0 rfl) ?_
  refine lv_bipush (v := 50) hx hb di_X0_init_5 (by decide) ?_
  refine zi_newa (atype := .int) (ty := .int) (t0 := 0) (N' := 50) (a0 := (50, .inl (fun _ => 0))) hx hb (hts _ q1_51) rfl rfl (fun _ h => h) hK hP hD hS hA (fun _ => rfl) (by decide) (by decide) (by decide) (show 1 ≤ 2 by decide) (show 50 ≤ 74 by decide) di_X0_init_7 (fun q0 H hP hD hS => ?_)
  refine W.widen (k := 1) (n := 50) (by omega) (by omega) ?_
  have hP : va_P D vwCl [(h0, .inr (0, [.null, .int 0, .null, .int 0, .int 0])), (q0, .inl (T 0, 50, .inl (fun _ => 0)))] H := hP
  have hD : va_D A [(h0, .inr (0, [.null, .int 0, .null, .int 0, .int 0])), (q0, .inl (T 0, 50, .inl (fun _ => 0)))] := hD
  refine va_putF (D := D) (ci := 0) (v := .ref q0) (ty := (.array .int)) (C := RX0) (T := TX0) (N := 5) hx hb hts inX0 tyX0 tyX0_ok nmX0 hown hK hP hD hS 0 rfl rfl 0 (by decide) (hts _ q2_26) (fun _ h9 => h9) rfl hin rfl (by decide +kernel) rfl rfl (Nat.le_of_ble_eq_true rfl) di_X0_init_9 (fun H locs hP hD hS => ?_)
  have hP : va_P D vwCl [(h0, .inr (0, [.ref q0, .int 0, .null, .int 0, .int 0])), (q0, .inl (T 0, 50, .inl (fun _ => 0)))] H := hP
  have hD : va_D A [(h0, .inr (0, [.ref q0, .int 0, .null, .int 0, .int 0])), (q0, .inl (T 0, 50, .inl (fun _ => 0)))] := hD
  refine lv_aload_n hx hb di_X0_init_12 rfl (lv_at hl 0 rfl) ?_
  refine lv_bipush (v := 24) hx hb di_X0_init_13 (by decide) ?_
  refine zi_newa (atype := .int) (ty := .int) (t0 := 0) (N' := 24) (a0 := (24, .inl (fun _ => 0))) hx hb (hts _ q1_51) rfl rfl (fun _ h => h) hK hP hD hS hA (fun _ => rfl) (by decide) (by decide) (by decide) (show 2 ≤ 2 by decide) (show 74 ≤ 74 by decide) di_X0_init_15 (fun q1 H hP hD hS => ?_)
  refine W.widen (k := 2) (n := 74) (by omega) (by omega) ?_
  have hP : va_P D vwCl [(h0, .inr (0, [.ref q0, .int 0, .null, .int 0, .int 0])), (q0, .inl (T 0, 50, .inl (fun _ => 0))), (q1, .inl (T 0, 24, .inl (fun _ => 0)))] H := hP
  have hD : va_D A [(h0, .inr (0, [.ref q0, .int 0, .null, .int 0, .int 0])), (q0, .inl (T 0, 50, .inl (fun _ => 0))), (q1, .inl (T 0, 24, .inl (fun _ => 0)))] := hD
  refine va_putF (D := D) (ci := 0) (v := .ref q1) (ty := (.array .int)) (C := RX0) (T := TX0) (N := 5) hx hb hts inX0 tyX0 tyX0_ok nmX0 hown hK hP hD hS 0 rfl rfl 2 (by decide) (hts _ q2_30) (fun _ h9 => h9) rfl hin rfl (by decide +kernel) rfl rfl (Nat.le_of_ble_eq_true rfl) di_X0_init_17 (fun H locs hP hD hS => ?_)
  have hP : va_P D vwCl [(h0, .inr (0, [.ref q0, .int 0, .ref q1, .int 0, .int 0])), (q0, .inl (T 0, 50, .inl (fun _ => 0))), (q1, .inl (T 0, 24, .inl (fun _ => 0)))] H := hP
  have hD : va_D A [(h0, .inr (0, [.ref q0, .int 0, .ref q1, .int 0, .int 0])), (q0, .inl (T 0, 50, .inl (fun _ => 0))), (q1, .inl (T 0, 24, .inl (fun _ => 0)))] := hD
  exact W.vret hx hb hr (fun t ht hW => ⟨⟨fun j => ([q0, q1] : List Nat).getD j 0, rfl, trivial, by rw [ht]; exact hP, va_K.moved hW.alike hK, hD⟩, hS.F ht⟩) hS.2.2 di_X0_init_20
theorem di_X1_init_0 : decode cX1_init 0 = .ok (.aload_n 0, 1) := by decide +kernel
theorem di_X1_init_1 : decode cX1_init 1 = .ok (.invokespecial 3, 3) := by decide +kernel
theorem di_X1_init_4 : decode cX1_init 4 = .ok (.aload_n 0, 1) := by decide +kernel
theorem di_X1_init_5 : decode cX1_init 5 = .ok (.bipush 40, 2) := by decide +kernel
theorem di_X1_init_7 : decode cX1_init 7 = .ok (.newarray .int, 2) := by decide +kernel
theorem di_X1_init_9 : decode cX1_init 9 = .ok (.putfield 9, 3) := by decide +kernel
theorem di_X1_init_12 : decode cX1_init 12 = .ok (.aload_n 0, 1) := by decide +kernel
theorem di_X1_init_13 : decode cX1_init 13 = .ok (.bipush 40, 2) := by decide +kernel
theorem di_X1_init_15 : decode cX1_init 15 = .ok (.newarray .int, 2) := by decide +kernel
theorem di_X1_init_17 : decode cX1_init 17 = .ok (.putfield 15, 3) := by decide +kernel
theorem di_X1_init_20 : decode cX1_init 20 = .ok (.aload_n 0, 1) := by decide +kernel
theorem di_X1_init_21 : decode cX1_init 21 = .ok (.bipush 40, 2) := by decide +kernel
theorem di_X1_init_23 : decode cX1_init 23 = .ok (.newarray .int, 2) := by decide +kernel
theorem di_X1_init_25 : decode cX1_init 25 = .ok (.putfield 18, 3) := by decide +kernel
theorem di_X1_init_28 : decode cX1_init 28 = .ok (.aload_n 0, 1) := by decide +kernel
theorem di_X1_init_29 : decode cX1_init 29 = .ok (.bipush 40, 2) := by decide +kernel
theorem di_X1_init_31 : decode cX1_init 31 = .ok (.newarray .int, 2) := by decide +kernel
theorem di_X1_init_33 : decode cX1_init 33 = .ok (.putfield 21, 3) := by decide +kernel
theorem di_X1_init_36 : decode cX1_init 36 = .ok (.aload_n 0, 1) := by decide +kernel
theorem di_X1_init_37 : decode cX1_init 37 = .ok (.aload_n 1, 1) := by decide +kernel
theorem di_X1_init_38 : decode cX1_init 38 = .ok (.putfield 24, 3) := by decide +kernel
theorem di_X1_init_41 : decode cX1_init 41 = .ok (.return_, 1) := by decide +kernel
def k_X1_init : zM := (yX1_init, cX1_init, 2, none)
set_option maxHeartbeats 16000000 in
set_option maxRecDepth 100000 in
theorem i_X1_init (l : Launch) (D : va_G) (T : Nat → ClassId) (h0 sz a1 : Nat) : Met l yX1_init (zws k_X1_init) ({ frames := 1, cells := 4, slots := 160, locals := 12 }) (va_Pc [.ref h0, .ref a1] (iPre D T [(h0, .inr (1, [.null, .null, .null, .null, .null, .int 0, .int 0]))] sz)) (va_Qv (fun _ : Nat → Nat => True) (fun u t => va_P D vwCl [(h0, .inr (1, [.ref a1, .ref (u 0), .ref (u 1), .ref (u 2), .ref (u 3), .int 0, .int 0])), ((u 0), .inl (T 0, 40, .inl (fun _ => 0))), ((u 1), .inl (T 0, 40, .inl (fun _ => 0))), ((u 2), .inl (T 0, 40, .inl (fun _ => 0))), ((u 3), .inl (T 0, 40, .inl (fun _ => 0)))] t.heap ∧ va_K D vwCl (tysT T) t ∧ va_D (va_A [(h0, .inr (1, [.null, .null, .null, .null, .null, .int 0, .int 0]))] sz) [(h0, .inr (1, [.ref a1, .ref (u 0), .ref (u 1), .ref (u 2), .ref (u 3), .int 0, .int 0])), ((u 0), .inl (T 0, 40, .inl (fun _ => 0))), ((u 1), .inl (T 0, 40, .inl (fun _ => 0))), ((u 2), .inl (T 0, 40, .inl (fun _ => 0))), ((u 3), .inl (T 0, 40, .inl (fun _ => 0)))]) (va_A [(h0, .inr (1, [.null, .null, .null, .null, .null, .int 0, .int 0]))] sz)) 4 160 (va_A [(h0, .inr (1, [.null, .null, .null, .null, .null, .int 0, .int 0]))] sz) := by
  refine Met.ofW (cc := cX1_init) (maxL := 2) (ret := none) (by decide) rfl ?_
  intro p e s m args below meth c s₁ B hml hv
  obtain ⟨rfl, hsz, hP, hK, hD0⟩ := hv
  have hx := B.exec
  have hb := B.bytes
  have hr := B.returns
  have hts0 := atoms_spec (ws := zws k_X1_init) B.pre
  have hts : ∀ w ∈ BIG, w.before _ s = true := fun w hw => hts0 w (List.mem_cons_of_mem _ hw)
  have hown : s.vm.findClass RX1 = some m.cls := findClass_of_methodNamed B.named
  have hlocks := B.notSynchronized
  have hin : meth.name = "<init>" := (name_of_methodNamed B.named B.method).1
  clear hts0
  subst hsz
  have hD := hD0.self (sz := s.heap.size)
  generalize hAe : va_A [(h0, .inr (1, [.null, .null, .null, .null, .null, .int 0, .int 0]))] s.heap.size = A at hD ⊢
  have hA : ∀ q : Nat, s.heap.size ≤ q → A q := fun q h => by rw [← hAe]; exact Or.inr h
  have hS : va_S A s.heap s.heap [] := va_S.rf
  have hl := lv_entry ([.ref h0, .ref a1]) (n := 2) (Nat.le_of_ble_eq_true rfl)
  rw [lg_entry_eq]
  generalize (lg_sl ([.ref h0, .ref a1]) ++ List.replicate (2 - (lg_sl ([.ref h0, .ref a1])).length) Slot.unset).toArray = ls at hl ⊢
  have hl : lv_has ls 2 [(0, .ref h0), (1, .ref a1)] := hl
  refine lv_aload_n hx hb di_X1_init_0 rfl (lv_at hl 0 rfl) ?_
  refine W.objInit hx hb hown (hts _ q1_235) (hts _ q1_20) (hts _ q1_21) rfl (by rw [hml]; exact hl.1) rfl di_X1_init_1 (Nat.le_of_ble_eq_true rfl) (Nat.le_of_ble_eq_true rfl) ?_
  refine W.eq (g2 := F0 m 4 ls []) rfl ?_
  refine lv_aload_n hx hb di_X1_init_4 rfl (lv_at hl 0 rfl) ?_
  refine lv_bipush (v := 40) hx hb di_X1_init_5 (by decide) ?_
  refine zi_newa (atype := .int) (ty := .int) (t0 := 0) (N' := 40) (a0 := (40, .inl (fun _ => 0))) hx hb (hts _ q1_51) rfl rfl (fun _ h => h) hK hP hD hS hA (fun _ => rfl) (by decide) (by decide) (by decide) (show 1 ≤ 4 by decide) (show 40 ≤ 160 by decide) di_X1_init_7 (fun q0 H hP hD hS => ?_)
  refine W.widen (k := 1) (n := 40) (by omega) (by omega) ?_
  have hP : va_P D vwCl [(h0, .inr (1, [.null, .null, .null, .null, .null, .int 0, .int 0])), (q0, .inl (T 0, 40, .inl (fun _ => 0)))] H := hP
  have hD : va_D A [(h0, .inr (1, [.null, .null, .null, .null, .null, .int 0, .int 0])), (q0, .inl (T 0, 40, .inl (fun _ => 0)))] := hD
  refine va_putF (D := D) (ci := 1) (v := .ref q0) (ty := (.array .int)) (C := RX1) (T := TX1) (N := 7) hx hb hts inX1 tyX1 tyX1_ok nmX1 hown hK hP hD hS 0 rfl rfl 1 (by decide) (hts _ q1_237) (fun _ h9 => h9) rfl hin rfl (by decide +kernel) rfl rfl (Nat.le_of_ble_eq_true rfl) di_X1_init_9 (fun H locs hP hD hS => ?_)
  have hP : va_P D vwCl [(h0, .inr (1, [.null, .ref q0, .null, .null, .null, .int 0, .int 0])), (q0, .inl (T 0, 40, .inl (fun _ => 0)))] H := hP
  have hD : va_D A [(h0, .inr (1, [.null, .ref q0, .null, .null, .null, .int 0, .int 0])), (q0, .inl (T 0, 40, .inl (fun _ => 0)))] := hD
  refine lv_aload_n hx hb di_X1_init_12 rfl (lv_at hl 0 rfl) ?_
  refine lv_bipush (v := 40) hx hb di_X1_init_13 (by decide) ?_
  refine zi_newa (atype := .int) (ty := .int) (t0 := 0) (N' := 40) (a0 := (40, .inl (fun _ => 0))) hx hb (hts _ q1_51) rfl rfl (fun _ h => h) hK hP hD hS hA (fun _ => rfl) (by decide) (by decide) (by decide) (show 2 ≤ 4 by decide) (show 80 ≤ 160 by decide) di_X1_init_15 (fun q1 H hP hD hS => ?_)
  refine W.widen (k := 2) (n := 80) (by omega) (by omega) ?_
  have hP : va_P D vwCl [(h0, .inr (1, [.null, .ref q0, .null, .null, .null, .int 0, .int 0])), (q0, .inl (T 0, 40, .inl (fun _ => 0))), (q1, .inl (T 0, 40, .inl (fun _ => 0)))] H := hP
  have hD : va_D A [(h0, .inr (1, [.null, .ref q0, .null, .null, .null, .int 0, .int 0])), (q0, .inl (T 0, 40, .inl (fun _ => 0))), (q1, .inl (T 0, 40, .inl (fun _ => 0)))] := hD
  refine va_putF (D := D) (ci := 1) (v := .ref q1) (ty := (.array .int)) (C := RX1) (T := TX1) (N := 7) hx hb hts inX1 tyX1 tyX1_ok nmX1 hown hK hP hD hS 0 rfl rfl 2 (by decide) (hts _ q1_238) (fun _ h9 => h9) rfl hin rfl (by decide +kernel) rfl rfl (Nat.le_of_ble_eq_true rfl) di_X1_init_17 (fun H locs hP hD hS => ?_)
  have hP : va_P D vwCl [(h0, .inr (1, [.null, .ref q0, .ref q1, .null, .null, .int 0, .int 0])), (q0, .inl (T 0, 40, .inl (fun _ => 0))), (q1, .inl (T 0, 40, .inl (fun _ => 0)))] H := hP
  have hD : va_D A [(h0, .inr (1, [.null, .ref q0, .ref q1, .null, .null, .int 0, .int 0])), (q0, .inl (T 0, 40, .inl (fun _ => 0))), (q1, .inl (T 0, 40, .inl (fun _ => 0)))] := hD
  refine lv_aload_n hx hb di_X1_init_20 rfl (lv_at hl 0 rfl) ?_
  refine lv_bipush (v := 40) hx hb di_X1_init_21 (by decide) ?_
  refine zi_newa (atype := .int) (ty := .int) (t0 := 0) (N' := 40) (a0 := (40, .inl (fun _ => 0))) hx hb (hts _ q1_51) rfl rfl (fun _ h => h) hK hP hD hS hA (fun _ => rfl) (by decide) (by decide) (by decide) (show 3 ≤ 4 by decide) (show 120 ≤ 160 by decide) di_X1_init_23 (fun q2 H hP hD hS => ?_)
  refine W.widen (k := 3) (n := 120) (by omega) (by omega) ?_
  have hP : va_P D vwCl [(h0, .inr (1, [.null, .ref q0, .ref q1, .null, .null, .int 0, .int 0])), (q0, .inl (T 0, 40, .inl (fun _ => 0))), (q1, .inl (T 0, 40, .inl (fun _ => 0))), (q2, .inl (T 0, 40, .inl (fun _ => 0)))] H := hP
  have hD : va_D A [(h0, .inr (1, [.null, .ref q0, .ref q1, .null, .null, .int 0, .int 0])), (q0, .inl (T 0, 40, .inl (fun _ => 0))), (q1, .inl (T 0, 40, .inl (fun _ => 0))), (q2, .inl (T 0, 40, .inl (fun _ => 0)))] := hD
  refine va_putF (D := D) (ci := 1) (v := .ref q2) (ty := (.array .int)) (C := RX1) (T := TX1) (N := 7) hx hb hts inX1 tyX1 tyX1_ok nmX1 hown hK hP hD hS 0 rfl rfl 3 (by decide) (hts _ q1_239) (fun _ h9 => h9) rfl hin rfl (by decide +kernel) rfl rfl (Nat.le_of_ble_eq_true rfl) di_X1_init_25 (fun H locs hP hD hS => ?_)
  have hP : va_P D vwCl [(h0, .inr (1, [.null, .ref q0, .ref q1, .ref q2, .null, .int 0, .int 0])), (q0, .inl (T 0, 40, .inl (fun _ => 0))), (q1, .inl (T 0, 40, .inl (fun _ => 0))), (q2, .inl (T 0, 40, .inl (fun _ => 0)))] H := hP
  have hD : va_D A [(h0, .inr (1, [.null, .ref q0, .ref q1, .ref q2, .null, .int 0, .int 0])), (q0, .inl (T 0, 40, .inl (fun _ => 0))), (q1, .inl (T 0, 40, .inl (fun _ => 0))), (q2, .inl (T 0, 40, .inl (fun _ => 0)))] := hD
  refine lv_aload_n hx hb di_X1_init_28 rfl (lv_at hl 0 rfl) ?_
  refine lv_bipush (v := 40) hx hb di_X1_init_29 (by decide) ?_
  refine zi_newa (atype := .int) (ty := .int) (t0 := 0) (N' := 40) (a0 := (40, .inl (fun _ => 0))) hx hb (hts _ q1_51) rfl rfl (fun _ h => h) hK hP hD hS hA (fun _ => rfl) (by decide) (by decide) (by decide) (show 4 ≤ 4 by decide) (show 160 ≤ 160 by decide) di_X1_init_31 (fun q3 H hP hD hS => ?_)
  refine W.widen (k := 4) (n := 160) (by omega) (by omega) ?_
  have hP : va_P D vwCl [(h0, .inr (1, [.null, .ref q0, .ref q1, .ref q2, .null, .int 0, .int 0])), (q0, .inl (T 0, 40, .inl (fun _ => 0))), (q1, .inl (T 0, 40, .inl (fun _ => 0))), (q2, .inl (T 0, 40, .inl (fun _ => 0))), (q3, .inl (T 0, 40, .inl (fun _ => 0)))] H := hP
  have hD : va_D A [(h0, .inr (1, [.null, .ref q0, .ref q1, .ref q2, .null, .int 0, .int 0])), (q0, .inl (T 0, 40, .inl (fun _ => 0))), (q1, .inl (T 0, 40, .inl (fun _ => 0))), (q2, .inl (T 0, 40, .inl (fun _ => 0))), (q3, .inl (T 0, 40, .inl (fun _ => 0)))] := hD
  refine va_putF (D := D) (ci := 1) (v := .ref q3) (ty := (.array .int)) (C := RX1) (T := TX1) (N := 7) hx hb hts inX1 tyX1 tyX1_ok nmX1 hown hK hP hD hS 0 rfl rfl 4 (by decide) (hts _ q2_0) (fun _ h9 => h9) rfl hin rfl (by decide +kernel) rfl rfl (Nat.le_of_ble_eq_true rfl) di_X1_init_33 (fun H locs hP hD hS => ?_)
  have hP : va_P D vwCl [(h0, .inr (1, [.null, .ref q0, .ref q1, .ref q2, .ref q3, .int 0, .int 0])), (q0, .inl (T 0, 40, .inl (fun _ => 0))), (q1, .inl (T 0, 40, .inl (fun _ => 0))), (q2, .inl (T 0, 40, .inl (fun _ => 0))), (q3, .inl (T 0, 40, .inl (fun _ => 0)))] H := hP
  have hD : va_D A [(h0, .inr (1, [.null, .ref q0, .ref q1, .ref q2, .ref q3, .int 0, .int 0])), (q0, .inl (T 0, 40, .inl (fun _ => 0))), (q1, .inl (T 0, 40, .inl (fun _ => 0))), (q2, .inl (T 0, 40, .inl (fun _ => 0))), (q3, .inl (T 0, 40, .inl (fun _ => 0)))] := hD
  refine lv_aload_n hx hb di_X1_init_36 rfl (lv_at hl 0 rfl) ?_
  refine lv_aload_n hx hb di_X1_init_37 rfl (lv_at hl 1 rfl) ?_
  refine va_putF (D := D) (ci := 1) (v := .ref a1) (ty := (.object "RoundPoint$Coast")) (C := RX1) (T := TX1) (N := 7) hx hb hts inX1 tyX1 tyX1_ok nmX1 hown hK hP hD hS 0 rfl rfl 0 (by decide) (hts _ q1_236) (fun _ h9 => h9) rfl hin rfl (by decide +kernel) rfl rfl (Nat.le_of_ble_eq_true rfl) di_X1_init_38 (fun H locs hP hD hS => ?_)
  have hP : va_P D vwCl [(h0, .inr (1, [.ref a1, .ref q0, .ref q1, .ref q2, .ref q3, .int 0, .int 0])), (q0, .inl (T 0, 40, .inl (fun _ => 0))), (q1, .inl (T 0, 40, .inl (fun _ => 0))), (q2, .inl (T 0, 40, .inl (fun _ => 0))), (q3, .inl (T 0, 40, .inl (fun _ => 0)))] H := hP
  have hD : va_D A [(h0, .inr (1, [.ref a1, .ref q0, .ref q1, .ref q2, .ref q3, .int 0, .int 0])), (q0, .inl (T 0, 40, .inl (fun _ => 0))), (q1, .inl (T 0, 40, .inl (fun _ => 0))), (q2, .inl (T 0, 40, .inl (fun _ => 0))), (q3, .inl (T 0, 40, .inl (fun _ => 0)))] := hD
  exact W.vret hx hb hr (fun t ht hW => ⟨⟨fun j => ([q0, q1, q2, q3] : List Nat).getD j 0, rfl, trivial, by rw [ht]; exact hP, va_K.moved hW.alike hK, hD⟩, hS.F ht⟩) hS.2.2 di_X1_init_41
theorem di_X2_init_0 : decode cX2_init 0 = .ok (.aload_n 0, 1) := by decide +kernel
theorem di_X2_init_1 : decode cX2_init 1 = .ok (.invokespecial 3, 3) := by decide +kernel
theorem di_X2_init_4 : decode cX2_init 4 = .ok (.aload_n 0, 1) := by decide +kernel
theorem di_X2_init_5 : decode cX2_init 5 = .ok (.bipush 10, 2) := by decide +kernel
theorem di_X2_init_7 : decode cX2_init 7 = .ok (.newarray .int, 2) := by decide +kernel
theorem di_X2_init_9 : decode cX2_init 9 = .ok (.putfield 9, 3) := by decide +kernel
theorem di_X2_init_12 : decode cX2_init 12 = .ok (.aload_n 0, 1) := by decide +kernel
theorem di_X2_init_13 : decode cX2_init 13 = .ok (.bipush 120, 2) := by decide +kernel
theorem di_X2_init_15 : decode cX2_init 15 = .ok (.newarray .int, 2) := by decide +kernel
theorem di_X2_init_17 : decode cX2_init 17 = .ok (.putfield 15, 3) := by decide +kernel
theorem di_X2_init_20 : decode cX2_init 20 = .ok (.aload_n 0, 1) := by decide +kernel
theorem di_X2_init_21 : decode cX2_init 21 = .ok (.bipush 120, 2) := by decide +kernel
theorem di_X2_init_23 : decode cX2_init 23 = .ok (.newarray .int, 2) := by decide +kernel
theorem di_X2_init_25 : decode cX2_init 25 = .ok (.putfield 18, 3) := by decide +kernel
theorem di_X2_init_28 : decode cX2_init 28 = .ok (.aload_n 0, 1) := by decide +kernel
theorem di_X2_init_29 : decode cX2_init 29 = .ok (.iconst 5, 1) := by decide +kernel
theorem di_X2_init_30 : decode cX2_init 30 = .ok (.newarray .int, 2) := by decide +kernel
theorem di_X2_init_32 : decode cX2_init 32 = .ok (.putfield 21, 3) := by decide +kernel
theorem di_X2_init_35 : decode cX2_init 35 = .ok (.aload_n 0, 1) := by decide +kernel
theorem di_X2_init_36 : decode cX2_init 36 = .ok (.iconst 5, 1) := by decide +kernel
theorem di_X2_init_37 : decode cX2_init 37 = .ok (.newarray .int, 2) := by decide +kernel
theorem di_X2_init_39 : decode cX2_init 39 = .ok (.putfield 24, 3) := by decide +kernel
theorem di_X2_init_42 : decode cX2_init 42 = .ok (.aload_n 0, 1) := by decide +kernel
theorem di_X2_init_43 : decode cX2_init 43 = .ok (.iconst 5, 1) := by decide +kernel
theorem di_X2_init_44 : decode cX2_init 44 = .ok (.newarray .int, 2) := by decide +kernel
theorem di_X2_init_46 : decode cX2_init 46 = .ok (.putfield 27, 3) := by decide +kernel
theorem di_X2_init_49 : decode cX2_init 49 = .ok (.aload_n 0, 1) := by decide +kernel
theorem di_X2_init_50 : decode cX2_init 50 = .ok (.bipush 12, 2) := by decide +kernel
theorem di_X2_init_52 : decode cX2_init 52 = .ok (.newarray .int, 2) := by decide +kernel
theorem di_X2_init_54 : decode cX2_init 54 = .ok (.putfield 30, 3) := by decide +kernel
theorem di_X2_init_57 : decode cX2_init 57 = .ok (.aload_n 0, 1) := by decide +kernel
theorem di_X2_init_58 : decode cX2_init 58 = .ok (.bipush 24, 2) := by decide +kernel
theorem di_X2_init_60 : decode cX2_init 60 = .ok (.newarray .int, 2) := by decide +kernel
theorem di_X2_init_62 : decode cX2_init 62 = .ok (.putfield 33, 3) := by decide +kernel
theorem di_X2_init_65 : decode cX2_init 65 = .ok (.aload_n 0, 1) := by decide +kernel
theorem di_X2_init_66 : decode cX2_init 66 = .ok (.bipush 24, 2) := by decide +kernel
theorem di_X2_init_68 : decode cX2_init 68 = .ok (.newarray .int, 2) := by decide +kernel
theorem di_X2_init_70 : decode cX2_init 70 = .ok (.putfield 36, 3) := by decide +kernel
theorem di_X2_init_73 : decode cX2_init 73 = .ok (.aload_n 0, 1) := by decide +kernel
theorem di_X2_init_74 : decode cX2_init 74 = .ok (.bipush 24, 2) := by decide +kernel
theorem di_X2_init_76 : decode cX2_init 76 = .ok (.newarray .int, 2) := by decide +kernel
theorem di_X2_init_78 : decode cX2_init 78 = .ok (.putfield 39, 3) := by decide +kernel
theorem di_X2_init_81 : decode cX2_init 81 = .ok (.aload_n 0, 1) := by decide +kernel
theorem di_X2_init_82 : decode cX2_init 82 = .ok (.bipush 24, 2) := by decide +kernel
theorem di_X2_init_84 : decode cX2_init 84 = .ok (.newarray .int, 2) := by decide +kernel
theorem di_X2_init_86 : decode cX2_init 86 = .ok (.putfield 42, 3) := by decide +kernel
theorem di_X2_init_89 : decode cX2_init 89 = .ok (.aload_n 0, 1) := by decide +kernel
theorem di_X2_init_90 : decode cX2_init 90 = .ok (.bipush 24, 2) := by decide +kernel
theorem di_X2_init_92 : decode cX2_init 92 = .ok (.newarray .int, 2) := by decide +kernel
theorem di_X2_init_94 : decode cX2_init 94 = .ok (.putfield 45, 3) := by decide +kernel
theorem di_X2_init_97 : decode cX2_init 97 = .ok (.aload_n 0, 1) := by decide +kernel
theorem di_X2_init_98 : decode cX2_init 98 = .ok (.bipush 24, 2) := by decide +kernel
theorem di_X2_init_100 : decode cX2_init 100 = .ok (.newarray .int, 2) := by decide +kernel
theorem di_X2_init_102 : decode cX2_init 102 = .ok (.putfield 48, 3) := by decide +kernel
theorem di_X2_init_105 : decode cX2_init 105 = .ok (.aload_n 0, 1) := by decide +kernel
theorem di_X2_init_106 : decode cX2_init 106 = .ok (.iconst 4, 1) := by decide +kernel
theorem di_X2_init_107 : decode cX2_init 107 = .ok (.newarray .int, 2) := by decide +kernel
theorem di_X2_init_109 : decode cX2_init 109 = .ok (.putfield 51, 3) := by decide +kernel
theorem di_X2_init_112 : decode cX2_init 112 = .ok (.aload_n 0, 1) := by decide +kernel
theorem di_X2_init_113 : decode cX2_init 113 = .ok (.sipush 1439, 3) := by decide +kernel
theorem di_X2_init_116 : decode cX2_init 116 = .ok (.putfield 54, 3) := by decide +kernel
theorem di_X2_init_119 : decode cX2_init 119 = .ok (.aload_n 0, 1) := by decide +kernel
theorem di_X2_init_120 : decode cX2_init 120 = .ok (.getfield 27, 3) := by decide +kernel
theorem di_X2_init_123 : decode cX2_init 123 = .ok (.iconst 0, 1) := by decide +kernel
theorem di_X2_init_124 : decode cX2_init 124 = .ok (.iconst 1, 1) := by decide +kernel
theorem di_X2_init_125 : decode cX2_init 125 = .ok (.iastore, 1) := by decide +kernel
theorem di_X2_init_126 : decode cX2_init 126 = .ok (.aload_n 0, 1) := by decide +kernel
theorem di_X2_init_127 : decode cX2_init 127 = .ok (.iconst 1, 1) := by decide +kernel
theorem di_X2_init_128 : decode cX2_init 128 = .ok (.putfield 58, 3) := by decide +kernel
theorem di_X2_init_131 : decode cX2_init 131 = .ok (.aload_n 0, 1) := by decide +kernel
theorem di_X2_init_132 : decode cX2_init 132 = .ok (.getfield 51, 3) := by decide +kernel
theorem di_X2_init_135 : decode cX2_init 135 = .ok (.iconst 0, 1) := by decide +kernel
theorem di_X2_init_136 : decode cX2_init 136 = .ok (.bipush 100, 2) := by decide +kernel
theorem di_X2_init_138 : decode cX2_init 138 = .ok (.iastore, 1) := by decide +kernel
theorem di_X2_init_139 : decode cX2_init 139 = .ok (.aload_n 0, 1) := by decide +kernel
theorem di_X2_init_140 : decode cX2_init 140 = .ok (.getfield 51, 3) := by decide +kernel
theorem di_X2_init_143 : decode cX2_init 143 = .ok (.iconst 1, 1) := by decide +kernel
theorem di_X2_init_144 : decode cX2_init 144 = .ok (.bipush 80, 2) := by decide +kernel
theorem di_X2_init_146 : decode cX2_init 146 = .ok (.iastore, 1) := by decide +kernel
theorem di_X2_init_147 : decode cX2_init 147 = .ok (.aload_n 0, 1) := by decide +kernel
theorem di_X2_init_148 : decode cX2_init 148 = .ok (.getfield 51, 3) := by decide +kernel
theorem di_X2_init_151 : decode cX2_init 151 = .ok (.iconst 2, 1) := by decide +kernel
theorem di_X2_init_152 : decode cX2_init 152 = .ok (.sipush 150, 3) := by decide +kernel
theorem di_X2_init_155 : decode cX2_init 155 = .ok (.iastore, 1) := by decide +kernel
theorem di_X2_init_156 : decode cX2_init 156 = .ok (.aload_n 0, 1) := by decide +kernel
theorem di_X2_init_157 : decode cX2_init 157 = .ok (.getfield 51, 3) := by decide +kernel
theorem di_X2_init_160 : decode cX2_init 160 = .ok (.iconst 3, 1) := by decide +kernel
theorem di_X2_init_161 : decode cX2_init 161 = .ok (.sipush 300, 3) := by decide +kernel
theorem di_X2_init_164 : decode cX2_init 164 = .ok (.iastore, 1) := by decide +kernel
theorem di_X2_init_165 : decode cX2_init 165 = .ok (.return_, 1) := by decide +kernel
def k_X2_init : zM := (yX2_init, cX2_init, 1, none)
set_option maxHeartbeats 16000000 in
set_option maxRecDepth 100000 in
theorem i_X2_init (l : Launch) (D : va_G) (T : Nat → ClassId) (h0 sz : Nat) : Met l yX2_init (zws k_X2_init) ({ frames := 1, cells := 14, slots := 425, locals := 12 }) (va_Pc [.ref h0] (iPre D T [(h0, .inr (2, [.int 0, .null, .null, .null, .int 0, .null, .null, .null, .int 0, .null, .int 0, .null, .null, .null, .null, .null, .null, .null, .int 0, .int 0]))] sz)) (va_Qv (fun _ : Nat → Nat => True) (fun u t => va_P D vwCl [(h0, .inr (2, [.int 0, .ref (u 0), .ref (u 1), .ref (u 2), .int 1, .ref (u 3), .ref (u 4), .ref (u 5), .int 0, .ref (u 6), .int 0, .ref (u 7), .ref (u 8), .ref (u 9), .ref (u 10), .ref (u 11), .ref (u 12), .ref (u 13), .int 0, .int 1439])), ((u 0), .inl (T 0, 10, .inl (fun _ => 0))), ((u 1), .inl (T 0, 120, .inl (fun _ => 0))), ((u 2), .inl (T 0, 120, .inl (fun _ => 0))), ((u 3), .inl (T 0, 5, .inl (fun _ => 0))), ((u 4), .inl (T 0, 5, .inl (fun _ => 0))), ((u 5), .inl (T 0, 5, .inl (upd (fun _ => 0) (0 : Int32).toNatClampNeg 1))), ((u 6), .inl (T 0, 12, .inl (fun _ => 0))), ((u 7), .inl (T 0, 24, .inl (fun _ => 0))), ((u 8), .inl (T 0, 24, .inl (fun _ => 0))), ((u 9), .inl (T 0, 24, .inl (fun _ => 0))), ((u 10), .inl (T 0, 24, .inl (fun _ => 0))), ((u 11), .inl (T 0, 24, .inl (fun _ => 0))), ((u 12), .inl (T 0, 24, .inl (fun _ => 0))), ((u 13), .inl (T 0, 4, .inl (upd (upd (upd (upd (fun _ => 0) (0 : Int32).toNatClampNeg 100) (1 : Int32).toNatClampNeg 80) (2 : Int32).toNatClampNeg 150) (3 : Int32).toNatClampNeg 300)))] t.heap ∧ va_K D vwCl (tysT T) t ∧ va_D (va_A [(h0, .inr (2, [.int 0, .null, .null, .null, .int 0, .null, .null, .null, .int 0, .null, .int 0, .null, .null, .null, .null, .null, .null, .null, .int 0, .int 0]))] sz) [(h0, .inr (2, [.int 0, .ref (u 0), .ref (u 1), .ref (u 2), .int 1, .ref (u 3), .ref (u 4), .ref (u 5), .int 0, .ref (u 6), .int 0, .ref (u 7), .ref (u 8), .ref (u 9), .ref (u 10), .ref (u 11), .ref (u 12), .ref (u 13), .int 0, .int 1439])), ((u 0), .inl (T 0, 10, .inl (fun _ => 0))), ((u 1), .inl (T 0, 120, .inl (fun _ => 0))), ((u 2), .inl (T 0, 120, .inl (fun _ => 0))), ((u 3), .inl (T 0, 5, .inl (fun _ => 0))), ((u 4), .inl (T 0, 5, .inl (fun _ => 0))), ((u 5), .inl (T 0, 5, .inl (upd (fun _ => 0) (0 : Int32).toNatClampNeg 1))), ((u 6), .inl (T 0, 12, .inl (fun _ => 0))), ((u 7), .inl (T 0, 24, .inl (fun _ => 0))), ((u 8), .inl (T 0, 24, .inl (fun _ => 0))), ((u 9), .inl (T 0, 24, .inl (fun _ => 0))), ((u 10), .inl (T 0, 24, .inl (fun _ => 0))), ((u 11), .inl (T 0, 24, .inl (fun _ => 0))), ((u 12), .inl (T 0, 24, .inl (fun _ => 0))), ((u 13), .inl (T 0, 4, .inl (upd (upd (upd (upd (fun _ => 0) (0 : Int32).toNatClampNeg 100) (1 : Int32).toNatClampNeg 80) (2 : Int32).toNatClampNeg 150) (3 : Int32).toNatClampNeg 300)))]) (va_A [(h0, .inr (2, [.int 0, .null, .null, .null, .int 0, .null, .null, .null, .int 0, .null, .int 0, .null, .null, .null, .null, .null, .null, .null, .int 0, .int 0]))] sz)) 14 425 (va_A [(h0, .inr (2, [.int 0, .null, .null, .null, .int 0, .null, .null, .null, .int 0, .null, .int 0, .null, .null, .null, .null, .null, .null, .null, .int 0, .int 0]))] sz) := by
  refine Met.ofW (cc := cX2_init) (maxL := 1) (ret := none) (by decide) rfl ?_
  intro p e s m args below meth c s₁ B hml hv
  obtain ⟨rfl, hsz, hP, hK, hD0⟩ := hv
  have hx := B.exec
  have hb := B.bytes
  have hr := B.returns
  have hts0 := atoms_spec (ws := zws k_X2_init) B.pre
  have hts : ∀ w ∈ BIG, w.before _ s = true := fun w hw => hts0 w (List.mem_cons_of_mem _ hw)
  have hown : s.vm.findClass RX2 = some m.cls := findClass_of_methodNamed B.named
  have hlocks := B.notSynchronized
  have hin : meth.name = "<init>" := (name_of_methodNamed B.named B.method).1
  clear hts0
  subst hsz
  have hD := hD0.self (sz := s.heap.size)
  generalize hAe : va_A [(h0, .inr (2, [.int 0, .null, .null, .null, .int 0, .null, .null, .null, .int 0, .null, .int 0, .null, .null, .null, .null, .null, .null, .null, .int 0, .int 0]))] s.heap.size = A at hD ⊢
  have hA : ∀ q : Nat, s.heap.size ≤ q → A q := fun q h => by rw [← hAe]; exact Or.inr h
  have hS : va_S A s.heap s.heap [] := va_S.rf
  have hl := lv_entry ([.ref h0]) (n := 1) (Nat.le_of_ble_eq_true rfl)
  rw [lg_entry_eq]
  generalize (lg_sl ([.ref h0]) ++ List.replicate (1 - (lg_sl ([.ref h0])).length) Slot.unset).toArray = ls at hl ⊢
  have hl : lv_has ls 1 [(0, .ref h0)] := hl
  refine lv_aload_n hx hb di_X2_init_0 rfl (lv_at hl 0 rfl) ?_
  refine W.objInit hx hb hown (hts _ q1_57) (hts _ q1_20) (hts _ q1_21) rfl (by rw [hml]; exact hl.1) rfl di_X2_init_1 (Nat.le_of_ble_eq_true rfl) (Nat.le_of_ble_eq_true rfl) ?_
  refine W.eq (g2 := F0 m 4 ls []) rfl ?_
  refine lv_aload_n hx hb di_X2_init_4 rfl (lv_at hl 0 rfl) ?_
  refine lv_bipush (v := 10) hx hb di_X2_init_5 (by decide) ?_
  refine zi_newa (atype := .int) (ty := .int) (t0 := 0) (N' := 10) (a0 := (10, .inl (fun _ => 0))) hx hb (hts _ q1_51) rfl rfl (fun _ h => h) hK hP hD hS hA (fun _ => rfl) (by decide) (by decide) (by decide) (show 1 ≤ 14 by decide) (show 10 ≤ 425 by decide) di_X2_init_7 (fun q0 H hP hD hS => ?_)
  refine W.widen (k := 1) (n := 10) (by omega) (by omega) ?_
  have hP : va_P D vwCl [(h0, .inr (2, [.int 0, .null, .null, .null, .int 0, .null, .null, .null, .int 0, .null, .int 0, .null, .null, .null, .null, .null, .null, .null, .int 0, .int 0])), (q0, .inl (T 0, 10, .inl (fun _ => 0)))] H := hP
  have hD : va_D A [(h0, .inr (2, [.int 0, .null, .null, .null, .int 0, .null, .null, .null, .int 0, .null, .int 0, .null, .null, .null, .null, .null, .null, .null, .int 0, .int 0])), (q0, .inl (T 0, 10, .inl (fun _ => 0)))] := hD
  refine va_putF (D := D) (ci := 2) (v := .ref q0) (ty := (.array .int)) (C := RX2) (T := TX2) (N := 20) hx hb hts inX2 tyX2 tyX2_ok nmX2 hown hK hP hD hS 0 rfl rfl 1 (by decide) (hts _ q1_60) (fun _ h9 => h9) rfl hin rfl (by decide +kernel) rfl rfl (Nat.le_of_ble_eq_true rfl) di_X2_init_9 (fun H locs hP hD hS => ?_)
  have hP : va_P D vwCl [(h0, .inr (2, [.int 0, .ref q0, .null, .null, .int 0, .null, .null, .null, .int 0, .null, .int 0, .null, .null, .null, .null, .null, .null, .null, .int 0, .int 0])), (q0, .inl (T 0, 10, .inl (fun _ => 0)))] H := hP
  have hD : va_D A [(h0, .inr (2, [.int 0, .ref q0, .null, .null, .int 0, .null, .null, .null, .int 0, .null, .int 0, .null, .null, .null, .null, .null, .null, .null, .int 0, .int 0])), (q0, .inl (T 0, 10, .inl (fun _ => 0)))] := hD
  refine lv_aload_n hx hb di_X2_init_12 rfl (lv_at hl 0 rfl) ?_
  refine lv_bipush (v := 120) hx hb di_X2_init_13 (by decide) ?_
  refine zi_newa (atype := .int) (ty := .int) (t0 := 0) (N' := 120) (a0 := (120, .inl (fun _ => 0))) hx hb (hts _ q1_51) rfl rfl (fun _ h => h) hK hP hD hS hA (fun _ => rfl) (by decide) (by decide) (by decide) (show 2 ≤ 14 by decide) (show 130 ≤ 425 by decide) di_X2_init_15 (fun q1 H hP hD hS => ?_)
  refine W.widen (k := 2) (n := 130) (by omega) (by omega) ?_
  have hP : va_P D vwCl [(h0, .inr (2, [.int 0, .ref q0, .null, .null, .int 0, .null, .null, .null, .int 0, .null, .int 0, .null, .null, .null, .null, .null, .null, .null, .int 0, .int 0])), (q0, .inl (T 0, 10, .inl (fun _ => 0))), (q1, .inl (T 0, 120, .inl (fun _ => 0)))] H := hP
  have hD : va_D A [(h0, .inr (2, [.int 0, .ref q0, .null, .null, .int 0, .null, .null, .null, .int 0, .null, .int 0, .null, .null, .null, .null, .null, .null, .null, .int 0, .int 0])), (q0, .inl (T 0, 10, .inl (fun _ => 0))), (q1, .inl (T 0, 120, .inl (fun _ => 0)))] := hD
  refine va_putF (D := D) (ci := 2) (v := .ref q1) (ty := (.array .int)) (C := RX2) (T := TX2) (N := 20) hx hb hts inX2 tyX2 tyX2_ok nmX2 hown hK hP hD hS 0 rfl rfl 2 (by decide) (hts _ q1_61) (fun _ h9 => h9) rfl hin rfl (by decide +kernel) rfl rfl (Nat.le_of_ble_eq_true rfl) di_X2_init_17 (fun H locs hP hD hS => ?_)
  have hP : va_P D vwCl [(h0, .inr (2, [.int 0, .ref q0, .ref q1, .null, .int 0, .null, .null, .null, .int 0, .null, .int 0, .null, .null, .null, .null, .null, .null, .null, .int 0, .int 0])), (q0, .inl (T 0, 10, .inl (fun _ => 0))), (q1, .inl (T 0, 120, .inl (fun _ => 0)))] H := hP
  have hD : va_D A [(h0, .inr (2, [.int 0, .ref q0, .ref q1, .null, .int 0, .null, .null, .null, .int 0, .null, .int 0, .null, .null, .null, .null, .null, .null, .null, .int 0, .int 0])), (q0, .inl (T 0, 10, .inl (fun _ => 0))), (q1, .inl (T 0, 120, .inl (fun _ => 0)))] := hD
  refine lv_aload_n hx hb di_X2_init_20 rfl (lv_at hl 0 rfl) ?_
  refine lv_bipush (v := 120) hx hb di_X2_init_21 (by decide) ?_
  refine zi_newa (atype := .int) (ty := .int) (t0 := 0) (N' := 120) (a0 := (120, .inl (fun _ => 0))) hx hb (hts _ q1_51) rfl rfl (fun _ h => h) hK hP hD hS hA (fun _ => rfl) (by decide) (by decide) (by decide) (show 3 ≤ 14 by decide) (show 250 ≤ 425 by decide) di_X2_init_23 (fun q2 H hP hD hS => ?_)
  refine W.widen (k := 3) (n := 250) (by omega) (by omega) ?_
  have hP : va_P D vwCl [(h0, .inr (2, [.int 0, .ref q0, .ref q1, .null, .int 0, .null, .null, .null, .int 0, .null, .int 0, .null, .null, .null, .null, .null, .null, .null, .int 0, .int 0])), (q0, .inl (T 0, 10, .inl (fun _ => 0))), (q1, .inl (T 0, 120, .inl (fun _ => 0))), (q2, .inl (T 0, 120, .inl (fun _ => 0)))] H := hP
  have hD : va_D A [(h0, .inr (2, [.int 0, .ref q0, .ref q1, .null, .int 0, .null, .null, .null, .int 0, .null, .int 0, .null, .null, .null, .null, .null, .null, .null, .int 0, .int 0])), (q0, .inl (T 0, 10, .inl (fun _ => 0))), (q1, .inl (T 0, 120, .inl (fun _ => 0))), (q2, .inl (T 0, 120, .inl (fun _ => 0)))] := hD
  refine va_putF (D := D) (ci := 2) (v := .ref q2) (ty := (.array .int)) (C := RX2) (T := TX2) (N := 20) hx hb hts inX2 tyX2 tyX2_ok nmX2 hown hK hP hD hS 0 rfl rfl 3 (by decide) (hts _ q1_62) (fun _ h9 => h9) rfl hin rfl (by decide +kernel) rfl rfl (Nat.le_of_ble_eq_true rfl) di_X2_init_25 (fun H locs hP hD hS => ?_)
  have hP : va_P D vwCl [(h0, .inr (2, [.int 0, .ref q0, .ref q1, .ref q2, .int 0, .null, .null, .null, .int 0, .null, .int 0, .null, .null, .null, .null, .null, .null, .null, .int 0, .int 0])), (q0, .inl (T 0, 10, .inl (fun _ => 0))), (q1, .inl (T 0, 120, .inl (fun _ => 0))), (q2, .inl (T 0, 120, .inl (fun _ => 0)))] H := hP
  have hD : va_D A [(h0, .inr (2, [.int 0, .ref q0, .ref q1, .ref q2, .int 0, .null, .null, .null, .int 0, .null, .int 0, .null, .null, .null, .null, .null, .null, .null, .int 0, .int 0])), (q0, .inl (T 0, 10, .inl (fun _ => 0))), (q1, .inl (T 0, 120, .inl (fun _ => 0))), (q2, .inl (T 0, 120, .inl (fun _ => 0)))] := hD
  refine lv_aload_n hx hb di_X2_init_28 rfl (lv_at hl 0 rfl) ?_
  refine lv_iconst (v := 5) hx hb di_X2_init_29 (by decide) ?_
  refine zi_newa (atype := .int) (ty := .int) (t0 := 0) (N' := 5) (a0 := (5, .inl (fun _ => 0))) hx hb (hts _ q1_51) rfl rfl (fun _ h => h) hK hP hD hS hA (fun _ => rfl) (by decide) (by decide) (by decide) (show 4 ≤ 14 by decide) (show 255 ≤ 425 by decide) di_X2_init_30 (fun q3 H hP hD hS => ?_)
  refine W.widen (k := 4) (n := 255) (by omega) (by omega) ?_
  have hP : va_P D vwCl [(h0, .inr (2, [.int 0, .ref q0, .ref q1, .ref q2, .int 0, .null, .null, .null, .int 0, .null, .int 0, .null, .null, .null, .null, .null, .null, .null, .int 0, .int 0])), (q0, .inl (T 0, 10, .inl (fun _ => 0))), (q1, .inl (T 0, 120, .inl (fun _ => 0))), (q2, .inl (T 0, 120, .inl (fun _ => 0))), (q3, .inl (T 0, 5, .inl (fun _ => 0)))] H := hP
  have hD : va_D A [(h0, .inr (2, [.int 0, .ref q0, .ref q1, .ref q2, .int 0, .null, .null, .null, .int 0, .null, .int 0, .null, .null, .null, .null, .null, .null, .null, .int 0, .int 0])), (q0, .inl (T 0, 10, .inl (fun _ => 0))), (q1, .inl (T 0, 120, .inl (fun _ => 0))), (q2, .inl (T 0, 120, .inl (fun _ => 0))), (q3, .inl (T 0, 5, .inl (fun _ => 0)))] := hD
  refine va_putF (D := D) (ci := 2) (v := .ref q3) (ty := (.array .int)) (C := RX2) (T := TX2) (N := 20) hx hb hts inX2 tyX2 tyX2_ok nmX2 hown hK hP hD hS 0 rfl rfl 5 (by decide) (hts _ q1_66) (fun _ h9 => h9) rfl hin rfl (by decide +kernel) rfl rfl (Nat.le_of_ble_eq_true rfl) di_X2_init_32 (fun H locs hP hD hS => ?_)
  have hP : va_P D vwCl [(h0, .inr (2, [.int 0, .ref q0, .ref q1, .ref q2, .int 0, .ref q3, .null, .null, .int 0, .null, .int 0, .null, .null, .null, .null, .null, .null, .null, .int 0, .int 0])), (q0, .inl (T 0, 10, .inl (fun _ => 0))), (q1, .inl (T 0, 120, .inl (fun _ => 0))), (q2, .inl (T 0, 120, .inl (fun _ => 0))), (q3, .inl (T 0, 5, .inl (fun _ => 0)))] H := hP
  have hD : va_D A [(h0, .inr (2, [.int 0, .ref q0, .ref q1, .ref q2, .int 0, .ref q3, .null, .null, .int 0, .null, .int 0, .null, .null, .null, .null, .null, .null, .null, .int 0, .int 0])), (q0, .inl (T 0, 10, .inl (fun _ => 0))), (q1, .inl (T 0, 120, .inl (fun _ => 0))), (q2, .inl (T 0, 120, .inl (fun _ => 0))), (q3, .inl (T 0, 5, .inl (fun _ => 0)))] := hD
  refine lv_aload_n hx hb di_X2_init_35 rfl (lv_at hl 0 rfl) ?_
  refine lv_iconst (v := 5) hx hb di_X2_init_36 (by decide) ?_
  refine zi_newa (atype := .int) (ty := .int) (t0 := 0) (N' := 5) (a0 := (5, .inl (fun _ => 0))) hx hb (hts _ q1_51) rfl rfl (fun _ h => h) hK hP hD hS hA (fun _ => rfl) (by decide) (by decide) (by decide) (show 5 ≤ 14 by decide) (show 260 ≤ 425 by decide) di_X2_init_37 (fun q4 H hP hD hS => ?_)
  refine W.widen (k := 5) (n := 260) (by omega) (by omega) ?_
  have hP : va_P D vwCl [(h0, .inr (2, [.int 0, .ref q0, .ref q1, .ref q2, .int 0, .ref q3, .null, .null, .int 0, .null, .int 0, .null, .null, .null, .null, .null, .null, .null, .int 0, .int 0])), (q0, .inl (T 0, 10, .inl (fun _ => 0))), (q1, .inl (T 0, 120, .inl (fun _ => 0))), (q2, .inl (T 0, 120, .inl (fun _ => 0))), (q3, .inl (T 0, 5, .inl (fun _ => 0))), (q4, .inl (T 0, 5, .inl (fun _ => 0)))] H := hP
  have hD : va_D A [(h0, .inr (2, [.int 0, .ref q0, .ref q1, .ref q2, .int 0, .ref q3, .null, .null, .int 0, .null, .int 0, .null, .null, .null, .null, .null, .null, .null, .int 0, .int 0])), (q0, .inl (T 0, 10, .inl (fun _ => 0))), (q1, .inl (T 0, 120, .inl (fun _ => 0))), (q2, .inl (T 0, 120, .inl (fun _ => 0))), (q3, .inl (T 0, 5, .inl (fun _ => 0))), (q4, .inl (T 0, 5, .inl (fun _ => 0)))] := hD
  refine va_putF (D := D) (ci := 2) (v := .ref q4) (ty := (.array .int)) (C := RX2) (T := TX2) (N := 20) hx hb hts inX2 tyX2 tyX2_ok nmX2 hown hK hP hD hS 0 rfl rfl 6 (by decide) (hts _ q1_68) (fun _ h9 => h9) rfl hin rfl (by decide +kernel) rfl rfl (Nat.le_of_ble_eq_true rfl) di_X2_init_39 (fun H locs hP hD hS => ?_)
  have hP : va_P D vwCl [(h0, .inr (2, [.int 0, .ref q0, .ref q1, .ref q2, .int 0, .ref q3, .ref q4, .null, .int 0, .null, .int 0, .null, .null, .null, .null, .null, .null, .null, .int 0, .int 0])), (q0, .inl (T 0, 10, .inl (fun _ => 0))), (q1, .inl (T 0, 120, .inl (fun _ => 0))), (q2, .inl (T 0, 120, .inl (fun _ => 0))), (q3, .inl (T 0, 5, .inl (fun _ => 0))), (q4, .inl (T 0, 5, .inl (fun _ => 0)))] H := hP
  have hD : va_D A [(h0, .inr (2, [.int 0, .ref q0, .ref q1, .ref q2, .int 0, .ref q3, .ref q4, .null, .int 0, .null, .int 0, .null, .null, .null, .null, .null, .null, .null, .int 0, .int 0])), (q0, .inl (T 0, 10, .inl (fun _ => 0))), (q1, .inl (T 0, 120, .inl (fun _ => 0))), (q2, .inl (T 0, 120, .inl (fun _ => 0))), (q3, .inl (T 0, 5, .inl (fun _ => 0))), (q4, .inl (T 0, 5, .inl (fun _ => 0)))] := hD
  refine lv_aload_n hx hb di_X2_init_42 rfl (lv_at hl 0 rfl) ?_
  refine lv_iconst (v := 5) hx hb di_X2_init_43 (by decide) ?_
  refine zi_newa (atype := .int) (ty := .int) (t0 := 0) (N' := 5) (a0 := (5, .inl (fun _ => 0))) hx hb (hts _ q1_51) rfl rfl (fun _ h => h) hK hP hD hS hA (fun _ => rfl) (by decide) (by decide) (by decide) (show 6 ≤ 14 by decide) (show 265 ≤ 425 by decide) di_X2_init_44 (fun q5 H hP hD hS => ?_)
  refine W.widen (k := 6) (n := 265) (by omega) (by omega) ?_
  have hP : va_P D vwCl [(h0, .inr (2, [.int 0, .ref q0, .ref q1, .ref q2, .int 0, .ref q3, .ref q4, .null, .int 0, .null, .int 0, .null, .null, .null, .null, .null, .null, .null, .int 0, .int 0])), (q0, .inl (T 0, 10, .inl (fun _ => 0))), (q1, .inl (T 0, 120, .inl (fun _ => 0))), (q2, .inl (T 0, 120, .inl (fun _ => 0))), (q3, .inl (T 0, 5, .inl (fun _ => 0))), (q4, .inl (T 0, 5, .inl (fun _ => 0))), (q5, .inl (T 0, 5, .inl (fun _ => 0)))] H := hP
  have hD : va_D A [(h0, .inr (2, [.int 0, .ref q0, .ref q1, .ref q2, .int 0, .ref q3, .ref q4, .null, .int 0, .null, .int 0, .null, .null, .null, .null, .null, .null, .null, .int 0, .int 0])), (q0, .inl (T 0, 10, .inl (fun _ => 0))), (q1, .inl (T 0, 120, .inl (fun _ => 0))), (q2, .inl (T 0, 120, .inl (fun _ => 0))), (q3, .inl (T 0, 5, .inl (fun _ => 0))), (q4, .inl (T 0, 5, .inl (fun _ => 0))), (q5, .inl (T 0, 5, .inl (fun _ => 0)))] := hD
  refine va_putF (D := D) (ci := 2) (v := .ref q5) (ty := (.array .int)) (C := RX2) (T := TX2) (N := 20) hx hb hts inX2 tyX2 tyX2_ok nmX2 hown hK hP hD hS 0 rfl rfl 7 (by decide) (hts _ q1_70) (fun _ h9 => h9) rfl hin rfl (by decide +kernel) rfl rfl (Nat.le_of_ble_eq_true rfl) di_X2_init_46 (fun H locs hP hD hS => ?_)
  have hP : va_P D vwCl [(h0, .inr (2, [.int 0, .ref q0, .ref q1, .ref q2, .int 0, .ref q3, .ref q4, .ref q5, .int 0, .null, .int 0, .null, .null, .null, .null, .null, .null, .null, .int 0, .int 0])), (q0, .inl (T 0, 10, .inl (fun _ => 0))), (q1, .inl (T 0, 120, .inl (fun _ => 0))), (q2, .inl (T 0, 120, .inl (fun _ => 0))), (q3, .inl (T 0, 5, .inl (fun _ => 0))), (q4, .inl (T 0, 5, .inl (fun _ => 0))), (q5, .inl (T 0, 5, .inl (fun _ => 0)))] H := hP
  have hD : va_D A [(h0, .inr (2, [.int 0, .ref q0, .ref q1, .ref q2, .int 0, .ref q3, .ref q4, .ref q5, .int 0, .null, .int 0, .null, .null, .null, .null, .null, .null, .null, .int 0, .int 0])), (q0, .inl (T 0, 10, .inl (fun _ => 0))), (q1, .inl (T 0, 120, .inl (fun _ => 0))), (q2, .inl (T 0, 120, .inl (fun _ => 0))), (q3, .inl (T 0, 5, .inl (fun _ => 0))), (q4, .inl (T 0, 5, .inl (fun _ => 0))), (q5, .inl (T 0, 5, .inl (fun _ => 0)))] := hD
  refine lv_aload_n hx hb di_X2_init_49 rfl (lv_at hl 0 rfl) ?_
  refine lv_bipush (v := 12) hx hb di_X2_init_50 (by decide) ?_
  refine zi_newa (atype := .int) (ty := .int) (t0 := 0) (N' := 12) (a0 := (12, .inl (fun _ => 0))) hx hb (hts _ q1_51) rfl rfl (fun _ h => h) hK hP hD hS hA (fun _ => rfl) (by decide) (by decide) (by decide) (show 7 ≤ 14 by decide) (show 277 ≤ 425 by decide) di_X2_init_52 (fun q6 H hP hD hS => ?_)
  refine W.widen (k := 7) (n := 277) (by omega) (by omega) ?_
  have hP : va_P D vwCl [(h0, .inr (2, [.int 0, .ref q0, .ref q1, .ref q2, .int 0, .ref q3, .ref q4, .ref q5, .int 0, .null, .int 0, .null, .null, .null, .null, .null, .null, .null, .int 0, .int 0])), (q0, .inl (T 0, 10, .inl (fun _ => 0))), (q1, .inl (T 0, 120, .inl (fun _ => 0))), (q2, .inl (T 0, 120, .inl (fun _ => 0))), (q3, .inl (T 0, 5, .inl (fun _ => 0))), (q4, .inl (T 0, 5, .inl (fun _ => 0))), (q5, .inl (T 0, 5, .inl (fun _ => 0))), (q6, .inl (T 0, 12, .inl (fun _ => 0)))] H := hP
  have hD : va_D A [(h0, .inr (2, [.int 0, .ref q0, .ref q1, .ref q2, .int 0, .ref q3, .ref q4, .ref q5, .int 0, .null, .int 0, .null, .null, .null, .null, .null, .null, .null, .int 0, .int 0])), (q0, .inl (T 0, 10, .inl (fun _ => 0))), (q1, .inl (T 0, 120, .inl (fun _ => 0))), (q2, .inl (T 0, 120, .inl (fun _ => 0))), (q3, .inl (T 0, 5, .inl (fun _ => 0))), (q4, .inl (T 0, 5, .inl (fun _ => 0))), (q5, .inl (T 0, 5, .inl (fun _ => 0))), (q6, .inl (T 0, 12, .inl (fun _ => 0)))] := hD
  refine va_putF (D := D) (ci := 2) (v := .ref q6) (ty := (.array .int)) (C := RX2) (T := TX2) (N := 20) hx hb hts inX2 tyX2 tyX2_ok nmX2 hown hK hP hD hS 0 rfl rfl 9 (by decide) (hts _ q1_73) (fun _ h9 => h9) rfl hin rfl (by decide +kernel) rfl rfl (Nat.le_of_ble_eq_true rfl) di_X2_init_54 (fun H locs hP hD hS => ?_)
  have hP : va_P D vwCl [(h0, .inr (2, [.int 0, .ref q0, .ref q1, .ref q2, .int 0, .ref q3, .ref q4, .ref q5, .int 0, .ref q6, .int 0, .null, .null, .null, .null, .null, .null, .null, .int 0, .int 0])), (q0, .inl (T 0, 10, .inl (fun _ => 0))), (q1, .inl (T 0, 120, .inl (fun _ => 0))), (q2, .inl (T 0, 120, .inl (fun _ => 0))), (q3, .inl (T 0, 5, .inl (fun _ => 0))), (q4, .inl (T 0, 5, .inl (fun _ => 0))), (q5, .inl (T 0, 5, .inl (fun _ => 0))), (q6, .inl (T 0, 12, .inl (fun _ => 0)))] H := hP
  have hD : va_D A [(h0, .inr (2, [.int 0, .ref q0, .ref q1, .ref q2, .int 0, .ref q3, .ref q4, .ref q5, .int 0, .ref q6, .int 0, .null, .null, .null, .null, .null, .null, .null, .int 0, .int 0])), (q0, .inl (T 0, 10, .inl (fun _ => 0))), (q1, .inl (T 0, 120, .inl (fun _ => 0))), (q2, .inl (T 0, 120, .inl (fun _ => 0))), (q3, .inl (T 0, 5, .inl (fun _ => 0))), (q4, .inl (T 0, 5, .inl (fun _ => 0))), (q5, .inl (T 0, 5, .inl (fun _ => 0))), (q6, .inl (T 0, 12, .inl (fun _ => 0)))] := hD
  refine lv_aload_n hx hb di_X2_init_57 rfl (lv_at hl 0 rfl) ?_
  refine lv_bipush (v := 24) hx hb di_X2_init_58 (by decide) ?_
  refine zi_newa (atype := .int) (ty := .int) (t0 := 0) (N' := 24) (a0 := (24, .inl (fun _ => 0))) hx hb (hts _ q1_51) rfl rfl (fun _ h => h) hK hP hD hS hA (fun _ => rfl) (by decide) (by decide) (by decide) (show 8 ≤ 14 by decide) (show 301 ≤ 425 by decide) di_X2_init_60 (fun q7 H hP hD hS => ?_)
  refine W.widen (k := 8) (n := 301) (by omega) (by omega) ?_
  have hP : va_P D vwCl [(h0, .inr (2, [.int 0, .ref q0, .ref q1, .ref q2, .int 0, .ref q3, .ref q4, .ref q5, .int 0, .ref q6, .int 0, .null, .null, .null, .null, .null, .null, .null, .int 0, .int 0])), (q0, .inl (T 0, 10, .inl (fun _ => 0))), (q1, .inl (T 0, 120, .inl (fun _ => 0))), (q2, .inl (T 0, 120, .inl (fun _ => 0))), (q3, .inl (T 0, 5, .inl (fun _ => 0))), (q4, .inl (T 0, 5, .inl (fun _ => 0))), (q5, .inl (T 0, 5, .inl (fun _ => 0))), (q6, .inl (T 0, 12, .inl (fun _ => 0))), (q7, .inl (T 0, 24, .inl (fun _ => 0)))] H := hP
  have hD : va_D A [(h0, .inr (2, [.int 0, .ref q0, .ref q1, .ref q2, .int 0, .ref q3, .ref q4, .ref q5, .int 0, .ref q6, .int 0, .null, .null, .null, .null, .null, .null, .null, .int 0, .int 0])), (q0, .inl (T 0, 10, .inl (fun _ => 0))), (q1, .inl (T 0, 120, .inl (fun _ => 0))), (q2, .inl (T 0, 120, .inl (fun _ => 0))), (q3, .inl (T 0, 5, .inl (fun _ => 0))), (q4, .inl (T 0, 5, .inl (fun _ => 0))), (q5, .inl (T 0, 5, .inl (fun _ => 0))), (q6, .inl (T 0, 12, .inl (fun _ => 0))), (q7, .inl (T 0, 24, .inl (fun _ => 0)))] := hD
  refine va_putF (D := D) (ci := 2) (v := .ref q7) (ty := (.array .int)) (C := RX2) (T := TX2) (N := 20) hx hb hts inX2 tyX2 tyX2_ok nmX2 hown hK hP hD hS 0 rfl rfl 11 (by decide) (hts _ q1_81) (fun _ h9 => h9) rfl hin rfl (by decide +kernel) rfl rfl (Nat.le_of_ble_eq_true rfl) di_X2_init_62 (fun H locs hP hD hS => ?_)
  have hP : va_P D vwCl [(h0, .inr (2, [.int 0, .ref q0, .ref q1, .ref q2, .int 0, .ref q3, .ref q4, .ref q5, .int 0, .ref q6, .int 0, .ref q7, .null, .null, .null, .null, .null, .null, .int 0, .int 0])), (q0, .inl (T 0, 10, .inl (fun _ => 0))), (q1, .inl (T 0, 120, .inl (fun _ => 0))), (q2, .inl (T 0, 120, .inl (fun _ => 0))), (q3, .inl (T 0, 5, .inl (fun _ => 0))), (q4, .inl (T 0, 5, .inl (fun _ => 0))), (q5, .inl (T 0, 5, .inl (fun _ => 0))), (q6, .inl (T 0, 12, .inl (fun _ => 0))), (q7, .inl (T 0, 24, .inl (fun _ => 0)))] H := hP
  have hD : va_D A [(h0, .inr (2, [.int 0, .ref q0, .ref q1, .ref q2, .int 0, .ref q3, .ref q4, .ref q5, .int 0, .ref q6, .int 0, .ref q7, .null, .null, .null, .null, .null, .null, .int 0, .int 0])), (q0, .inl (T 0, 10, .inl (fun _ => 0))), (q1, .inl (T 0, 120, .inl (fun _ => 0))), (q2, .inl (T 0, 120, .inl (fun _ => 0))), (q3, .inl (T 0, 5, .inl (fun _ => 0))), (q4, .inl (T 0, 5, .inl (fun _ => 0))), (q5, .inl (T 0, 5, .inl (fun _ => 0))), (q6, .inl (T 0, 12, .inl (fun _ => 0))), (q7, .inl (T 0, 24, .inl (fun _ => 0)))] := hD
  refine lv_aload_n hx hb di_X2_init_65 rfl (lv_at hl 0 rfl) ?_
  refine lv_bipush (v := 24) hx hb di_X2_init_66 (by decide) ?_
  refine zi_newa (atype := .int) (ty := .int) (t0 := 0) (N' := 24) (a0 := (24, .inl (fun _ => 0))) hx hb (hts _ q1_51) rfl rfl (fun _ h => h) hK hP hD hS hA (fun _ => rfl) (by decide) (by decide) (by decide) (show 9 ≤ 14 by decide) (show 325 ≤ 425 by decide) di_X2_init_68 (fun q8 H hP hD hS => ?_)
  refine W.widen (k := 9) (n := 325) (by omega) (by omega) ?_
  have hP : va_P D vwCl [(h0, .inr (2, [.int 0, .ref q0, .ref q1, .ref q2, .int 0, .ref q3, .ref q4, .ref q5, .int 0, .ref q6, .int 0, .ref q7, .null, .null, .null, .null, .null, .null, .int 0, .int 0])), (q0, .inl (T 0, 10, .inl (fun _ => 0))), (q1, .inl (T 0, 120, .inl (fun _ => 0))), (q2, .inl (T 0, 120, .inl (fun _ => 0))), (q3, .inl (T 0, 5, .inl (fun _ => 0))), (q4, .inl (T 0, 5, .inl (fun _ => 0))), (q5, .inl (T 0, 5, .inl (fun _ => 0))), (q6, .inl (T 0, 12, .inl (fun _ => 0))), (q7, .inl (T 0, 24, .inl (fun _ => 0))), (q8, .inl (T 0, 24, .inl (fun _ => 0)))] H := hP
  have hD : va_D A [(h0, .inr (2, [.int 0, .ref q0, .ref q1, .ref q2, .int 0, .ref q3, .ref q4, .ref q5, .int 0, .ref q6, .int 0, .ref q7, .null, .null, .null, .null, .null, .null, .int 0, .int 0])), (q0, .inl (T 0, 10, .inl (fun _ => 0))), (q1, .inl (T 0, 120, .inl (fun _ => 0))), (q2, .inl (T 0, 120, .inl (fun _ => 0))), (q3, .inl (T 0, 5, .inl (fun _ => 0))), (q4, .inl (T 0, 5, .inl (fun _ => 0))), (q5, .inl (T 0, 5, .inl (fun _ => 0))), (q6, .inl (T 0, 12, .inl (fun _ => 0))), (q7, .inl (T 0, 24, .inl (fun _ => 0))), (q8, .inl (T 0, 24, .inl (fun _ => 0)))] := hD
  refine va_putF (D := D) (ci := 2) (v := .ref q8) (ty := (.array .int)) (C := RX2) (T := TX2) (N := 20) hx hb hts inX2 tyX2 tyX2_ok nmX2 hown hK hP hD hS 0 rfl rfl 12 (by decide) (hts _ q1_84) (fun _ h9 => h9) rfl hin rfl (by decide +kernel) rfl rfl (Nat.le_of_ble_eq_true rfl) di_X2_init_70 (fun H locs hP hD hS => ?_)
  have hP : va_P D vwCl [(h0, .inr (2, [.int 0, .ref q0, .ref q1, .ref q2, .int 0, .ref q3, .ref q4, .ref q5, .int 0, .ref q6, .int 0, .ref q7, .ref q8, .null, .null, .null, .null, .null, .int 0, .int 0])), (q0, .inl (T 0, 10, .inl (fun _ => 0))), (q1, .inl (T 0, 120, .inl (fun _ => 0))), (q2, .inl (T 0, 120, .inl (fun _ => 0))), (q3, .inl (T 0, 5, .inl (fun _ => 0))), (q4, .inl (T 0, 5, .inl (fun _ => 0))), (q5, .inl (T 0, 5, .inl (fun _ => 0))), (q6, .inl (T 0, 12, .inl (fun _ => 0))), (q7, .inl (T 0, 24, .inl (fun _ => 0))), (q8, .inl (T 0, 24, .inl (fun _ => 0)))] H := hP
  have hD : va_D A [(h0, .inr (2, [.int 0, .ref q0, .ref q1, .ref q2, .int 0, .ref q3, .ref q4, .ref q5, .int 0, .ref q6, .int 0, .ref q7, .ref q8, .null, .null, .null, .null, .null, .int 0, .int 0])), (q0, .inl (T 0, 10, .inl (fun _ => 0))), (q1, .inl (T 0, 120, .inl (fun _ => 0))), (q2, .inl (T 0, 120, .inl (fun _ => 0))), (q3, .inl (T 0, 5, .inl (fun _ => 0))), (q4, .inl (T 0, 5, .inl (fun _ => 0))), (q5, .inl (T 0, 5, .inl (fun _ => 0))), (q6, .inl (T 0, 12, .inl (fun _ => 0))), (q7, .inl (T 0, 24, .inl (fun _ => 0))), (q8, .inl (T 0, 24, .inl (fun _ => 0)))] := hD
  refine lv_aload_n hx hb di_X2_init_73 rfl (lv_at hl 0 rfl) ?_
  refine lv_bipush (v := 24) hx hb di_X2_init_74 (by decide) ?_
  refine zi_newa (atype := .int) (ty := .int) (t0 := 0) (N' := 24) (a0 := (24, .inl (fun _ => 0))) hx hb (hts _ q1_51) rfl rfl (fun _ h => h) hK hP hD hS hA (fun _ => rfl) (by decide) (by decide) (by decide) (show 10 ≤ 14 by decide) (show 349 ≤ 425 by decide) di_X2_init_76 (fun q9 H hP hD hS => ?_)
  refine W.widen (k := 10) (n := 349) (by omega) (by omega) ?_
  have hP : va_P D vwCl [(h0, .inr (2, [.int 0, .ref q0, .ref q1, .ref q2, .int 0, .ref q3, .ref q4, .ref q5, .int 0, .ref q6, .int 0, .ref q7, .ref q8, .null, .null, .null, .null, .null, .int 0, .int 0])), (q0, .inl (T 0, 10, .inl (fun _ => 0))), (q1, .inl (T 0, 120, .inl (fun _ => 0))), (q2, .inl (T 0, 120, .inl (fun _ => 0))), (q3, .inl (T 0, 5, .inl (fun _ => 0))), (q4, .inl (T 0, 5, .inl (fun _ => 0))), (q5, .inl (T 0, 5, .inl (fun _ => 0))), (q6, .inl (T 0, 12, .inl (fun _ => 0))), (q7, .inl (T 0, 24, .inl (fun _ => 0))), (q8, .inl (T 0, 24, .inl (fun _ => 0))), (q9, .inl (T 0, 24, .inl (fun _ => 0)))] H := hP
  have hD : va_D A [(h0, .inr (2, [.int 0, .ref q0, .ref q1, .ref q2, .int 0, .ref q3, .ref q4, .ref q5, .int 0, .ref q6, .int 0, .ref q7, .ref q8, .null, .null, .null, .null, .null, .int 0, .int 0])), (q0, .inl (T 0, 10, .inl (fun _ => 0))), (q1, .inl (T 0, 120, .inl (fun _ => 0))), (q2, .inl (T 0, 120, .inl (fun _ => 0))), (q3, .inl (T 0, 5, .inl (fun _ => 0))), (q4, .inl (T 0, 5, .inl (fun _ => 0))), (q5, .inl (T 0, 5, .inl (fun _ => 0))), (q6, .inl (T 0, 12, .inl (fun _ => 0))), (q7, .inl (T 0, 24, .inl (fun _ => 0))), (q8, .inl (T 0, 24, .inl (fun _ => 0))), (q9, .inl (T 0, 24, .inl (fun _ => 0)))] := hD
  refine va_putF (D := D) (ci := 2) (v := .ref q9) (ty := (.array .int)) (C := RX2) (T := TX2) (N := 20) hx hb hts inX2 tyX2 tyX2_ok nmX2 hown hK hP hD hS 0 rfl rfl 13 (by decide) (hts _ q1_87) (fun _ h9 => h9) rfl hin rfl (by decide +kernel) rfl rfl (Nat.le_of_ble_eq_true rfl) di_X2_init_78 (fun H locs hP hD hS => ?_)
  have hP : va_P D vwCl [(h0, .inr (2, [.int 0, .ref q0, .ref q1, .ref q2, .int 0, .ref q3, .ref q4, .ref q5, .int 0, .ref q6, .int 0, .ref q7, .ref q8, .ref q9, .null, .null, .null, .null, .int 0, .int 0])), (q0, .inl (T 0, 10, .inl (fun _ => 0))), (q1, .inl (T 0, 120, .inl (fun _ => 0))), (q2, .inl (T 0, 120, .inl (fun _ => 0))), (q3, .inl (T 0, 5, .inl (fun _ => 0))), (q4, .inl (T 0, 5, .inl (fun _ => 0))), (q5, .inl (T 0, 5, .inl (fun _ => 0))), (q6, .inl (T 0, 12, .inl (fun _ => 0))), (q7, .inl (T 0, 24, .inl (fun _ => 0))), (q8, .inl (T 0, 24, .inl (fun _ => 0))), (q9, .inl (T 0, 24, .inl (fun _ => 0)))] H := hP
  have hD : va_D A [(h0, .inr (2, [.int 0, .ref q0, .ref q1, .ref q2, .int 0, .ref q3, .ref q4, .ref q5, .int 0, .ref q6, .int 0, .ref q7, .ref q8, .ref q9, .null, .null, .null, .null, .int 0, .int 0])), (q0, .inl (T 0, 10, .inl (fun _ => 0))), (q1, .inl (T 0, 120, .inl (fun _ => 0))), (q2, .inl (T 0, 120, .inl (fun _ => 0))), (q3, .inl (T 0, 5, .inl (fun _ => 0))), (q4, .inl (T 0, 5, .inl (fun _ => 0))), (q5, .inl (T 0, 5, .inl (fun _ => 0))), (q6, .inl (T 0, 12, .inl (fun _ => 0))), (q7, .inl (T 0, 24, .inl (fun _ => 0))), (q8, .inl (T 0, 24, .inl (fun _ => 0))), (q9, .inl (T 0, 24, .inl (fun _ => 0)))] := hD
  refine lv_aload_n hx hb di_X2_init_81 rfl (lv_at hl 0 rfl) ?_
  refine lv_bipush (v := 24) hx hb di_X2_init_82 (by decide) ?_
  refine zi_newa (atype := .int) (ty := .int) (t0 := 0) (N' := 24) (a0 := (24, .inl (fun _ => 0))) hx hb (hts _ q1_51) rfl rfl (fun _ h => h) hK hP hD hS hA (fun _ => rfl) (by decide) (by decide) (by decide) (show 11 ≤ 14 by decide) (show 373 ≤ 425 by decide) di_X2_init_84 (fun q10 H hP hD hS => ?_)
  refine W.widen (k := 11) (n := 373) (by omega) (by omega) ?_
  have hP : va_P D vwCl [(h0, .inr (2, [.int 0, .ref q0, .ref q1, .ref q2, .int 0, .ref q3, .ref q4, .ref q5, .int 0, .ref q6, .int 0, .ref q7, .ref q8, .ref q9, .null, .null, .null, .null, .int 0, .int 0])), (q0, .inl (T 0, 10, .inl (fun _ => 0))), (q1, .inl (T 0, 120, .inl (fun _ => 0))), (q2, .inl (T 0, 120, .inl (fun _ => 0))), (q3, .inl (T 0, 5, .inl (fun _ => 0))), (q4, .inl (T 0, 5, .inl (fun _ => 0))), (q5, .inl (T 0, 5, .inl (fun _ => 0))), (q6, .inl (T 0, 12, .inl (fun _ => 0))), (q7, .inl (T 0, 24, .inl (fun _ => 0))), (q8, .inl (T 0, 24, .inl (fun _ => 0))), (q9, .inl (T 0, 24, .inl (fun _ => 0))), (q10, .inl (T 0, 24, .inl (fun _ => 0)))] H := hP
  have hD : va_D A [(h0, .inr (2, [.int 0, .ref q0, .ref q1, .ref q2, .int 0, .ref q3, .ref q4, .ref q5, .int 0, .ref q6, .int 0, .ref q7, .ref q8, .ref q9, .null, .null, .null, .null, .int 0, .int 0])), (q0, .inl (T 0, 10, .inl (fun _ => 0))), (q1, .inl (T 0, 120, .inl (fun _ => 0))), (q2, .inl (T 0, 120, .inl (fun _ => 0))), (q3, .inl (T 0, 5, .inl (fun _ => 0))), (q4, .inl (T 0, 5, .inl (fun _ => 0))), (q5, .inl (T 0, 5, .inl (fun _ => 0))), (q6, .inl (T 0, 12, .inl (fun _ => 0))), (q7, .inl (T 0, 24, .inl (fun _ => 0))), (q8, .inl (T 0, 24, .inl (fun _ => 0))), (q9, .inl (T 0, 24, .inl (fun _ => 0))), (q10, .inl (T 0, 24, .inl (fun _ => 0)))] := hD
  refine va_putF (D := D) (ci := 2) (v := .ref q10) (ty := (.array .int)) (C := RX2) (T := TX2) (N := 20) hx hb hts inX2 tyX2 tyX2_ok nmX2 hown hK hP hD hS 0 rfl rfl 14 (by decide) (hts _ q1_88) (fun _ h9 => h9) rfl hin rfl (by decide +kernel) rfl rfl (Nat.le_of_ble_eq_true rfl) di_X2_init_86 (fun H locs hP hD hS => ?_)
  have hP : va_P D vwCl [(h0, .inr (2, [.int 0, .ref q0, .ref q1, .ref q2, .int 0, .ref q3, .ref q4, .ref q5, .int 0, .ref q6, .int 0, .ref q7, .ref q8, .ref q9, .ref q10, .null, .null, .null, .int 0, .int 0])), (q0, .inl (T 0, 10, .inl (fun _ => 0))), (q1, .inl (T 0, 120, .inl (fun _ => 0))), (q2, .inl (T 0, 120, .inl (fun _ => 0))), (q3, .inl (T 0, 5, .inl (fun _ => 0))), (q4, .inl (T 0, 5, .inl (fun _ => 0))), (q5, .inl (T 0, 5, .inl (fun _ => 0))), (q6, .inl (T 0, 12, .inl (fun _ => 0))), (q7, .inl (T 0, 24, .inl (fun _ => 0))), (q8, .inl (T 0, 24, .inl (fun _ => 0))), (q9, .inl (T 0, 24, .inl (fun _ => 0))), (q10, .inl (T 0, 24, .inl (fun _ => 0)))] H := hP
  have hD : va_D A [(h0, .inr (2, [.int 0, .ref q0, .ref q1, .ref q2, .int 0, .ref q3, .ref q4, .ref q5, .int 0, .ref q6, .int 0, .ref q7, .ref q8, .ref q9, .ref q10, .null, .null, .null, .int 0, .int 0])), (q0, .inl (T 0, 10, .inl (fun _ => 0))), (q1, .inl (T 0, 120, .inl (fun _ => 0))), (q2, .inl (T 0, 120, .inl (fun _ => 0))), (q3, .inl (T 0, 5, .inl (fun _ => 0))), (q4, .inl (T 0, 5, .inl (fun _ => 0))), (q5, .inl (T 0, 5, .inl (fun _ => 0))), (q6, .inl (T 0, 12, .inl (fun _ => 0))), (q7, .inl (T 0, 24, .inl (fun _ => 0))), (q8, .inl (T 0, 24, .inl (fun _ => 0))), (q9, .inl (T 0, 24, .inl (fun _ => 0))), (q10, .inl (T 0, 24, .inl (fun _ => 0)))] := hD
  refine lv_aload_n hx hb di_X2_init_89 rfl (lv_at hl 0 rfl) ?_
  refine lv_bipush (v := 24) hx hb di_X2_init_90 (by decide) ?_
  refine zi_newa (atype := .int) (ty := .int) (t0 := 0) (N' := 24) (a0 := (24, .inl (fun _ => 0))) hx hb (hts _ q1_51) rfl rfl (fun _ h => h) hK hP hD hS hA (fun _ => rfl) (by decide) (by decide) (by decide) (show 12 ≤ 14 by decide) (show 397 ≤ 425 by decide) di_X2_init_92 (fun q11 H hP hD hS => ?_)
  refine W.widen (k := 12) (n := 397) (by omega) (by omega) ?_
  have hP : va_P D vwCl [(h0, .inr (2, [.int 0, .ref q0, .ref q1, .ref q2, .int 0, .ref q3, .ref q4, .ref q5, .int 0, .ref q6, .int 0, .ref q7, .ref q8, .ref q9, .ref q10, .null, .null, .null, .int 0, .int 0])), (q0, .inl (T 0, 10, .inl (fun _ => 0))), (q1, .inl (T 0, 120, .inl (fun _ => 0))), (q2, .inl (T 0, 120, .inl (fun _ => 0))), (q3, .inl (T 0, 5, .inl (fun _ => 0))), (q4, .inl (T 0, 5, .inl (fun _ => 0))), (q5, .inl (T 0, 5, .inl (fun _ => 0))), (q6, .inl (T 0, 12, .inl (fun _ => 0))), (q7, .inl (T 0, 24, .inl (fun _ => 0))), (q8, .inl (T 0, 24, .inl (fun _ => 0))), (q9, .inl (T 0, 24, .inl (fun _ => 0))), (q10, .inl (T 0, 24, .inl (fun _ => 0))), (q11, .inl (T 0, 24, .inl (fun _ => 0)))] H := hP
  have hD : va_D A [(h0, .inr (2, [.int 0, .ref q0, .ref q1, .ref q2, .int 0, .ref q3, .ref q4, .ref q5, .int 0, .ref q6, .int 0, .ref q7, .ref q8, .ref q9, .ref q10, .null, .null, .null, .int 0, .int 0])), (q0, .inl (T 0, 10, .inl (fun _ => 0))), (q1, .inl (T 0, 120, .inl (fun _ => 0))), (q2, .inl (T 0, 120, .inl (fun _ => 0))), (q3, .inl (T 0, 5, .inl (fun _ => 0))), (q4, .inl (T 0, 5, .inl (fun _ => 0))), (q5, .inl (T 0, 5, .inl (fun _ => 0))), (q6, .inl (T 0, 12, .inl (fun _ => 0))), (q7, .inl (T 0, 24, .inl (fun _ => 0))), (q8, .inl (T 0, 24, .inl (fun _ => 0))), (q9, .inl (T 0, 24, .inl (fun _ => 0))), (q10, .inl (T 0, 24, .inl (fun _ => 0))), (q11, .inl (T 0, 24, .inl (fun _ => 0)))] := hD
  refine va_putF (D := D) (ci := 2) (v := .ref q11) (ty := (.array .int)) (C := RX2) (T := TX2) (N := 20) hx hb hts inX2 tyX2 tyX2_ok nmX2 hown hK hP hD hS 0 rfl rfl 15 (by decide) (hts _ q1_92) (fun _ h9 => h9) rfl hin rfl (by decide +kernel) rfl rfl (Nat.le_of_ble_eq_true rfl) di_X2_init_94 (fun H locs hP hD hS => ?_)
  have hP : va_P D vwCl [(h0, .inr (2, [.int 0, .ref q0, .ref q1, .ref q2, .int 0, .ref q3, .ref q4, .ref q5, .int 0, .ref q6, .int 0, .ref q7, .ref q8, .ref q9, .ref q10, .ref q11, .null, .null, .int 0, .int 0])), (q0, .inl (T 0, 10, .inl (fun _ => 0))), (q1, .inl (T 0, 120, .inl (fun _ => 0))), (q2, .inl (T 0, 120, .inl (fun _ => 0))), (q3, .inl (T 0, 5, .inl (fun _ => 0))), (q4, .inl (T 0, 5, .inl (fun _ => 0))), (q5, .inl (T 0, 5, .inl (fun _ => 0))), (q6, .inl (T 0, 12, .inl (fun _ => 0))), (q7, .inl (T 0, 24, .inl (fun _ => 0))), (q8, .inl (T 0, 24, .inl (fun _ => 0))), (q9, .inl (T 0, 24, .inl (fun _ => 0))), (q10, .inl (T 0, 24, .inl (fun _ => 0))), (q11, .inl (T 0, 24, .inl (fun _ => 0)))] H := hP
  have hD : va_D A [(h0, .inr (2, [.int 0, .ref q0, .ref q1, .ref q2, .int 0, .ref q3, .ref q4, .ref q5, .int 0, .ref q6, .int 0, .ref q7, .ref q8, .ref q9, .ref q10, .ref q11, .null, .null, .int 0, .int 0])), (q0, .inl (T 0, 10, .inl (fun _ => 0))), (q1, .inl (T 0, 120, .inl (fun _ => 0))), (q2, .inl (T 0, 120, .inl (fun _ => 0))), (q3, .inl (T 0, 5, .inl (fun _ => 0))), (q4, .inl (T 0, 5, .inl (fun _ => 0))), (q5, .inl (T 0, 5, .inl (fun _ => 0))), (q6, .inl (T 0, 12, .inl (fun _ => 0))), (q7, .inl (T 0, 24, .inl (fun _ => 0))), (q8, .inl (T 0, 24, .inl (fun _ => 0))), (q9, .inl (T 0, 24, .inl (fun _ => 0))), (q10, .inl (T 0, 24, .inl (fun _ => 0))), (q11, .inl (T 0, 24, .inl (fun _ => 0)))] := hD
  refine lv_aload_n hx hb di_X2_init_97 rfl (lv_at hl 0 rfl) ?_
  refine lv_bipush (v := 24) hx hb di_X2_init_98 (by decide) ?_
  refine zi_newa (atype := .int) (ty := .int) (t0 := 0) (N' := 24) (a0 := (24, .inl (fun _ => 0))) hx hb (hts _ q1_51) rfl rfl (fun _ h => h) hK hP hD hS hA (fun _ => rfl) (by decide) (by decide) (by decide) (show 13 ≤ 14 by decide) (show 421 ≤ 425 by decide) di_X2_init_100 (fun q12 H hP hD hS => ?_)
  refine W.widen (k := 13) (n := 421) (by omega) (by omega) ?_
  have hP : va_P D vwCl [(h0, .inr (2, [.int 0, .ref q0, .ref q1, .ref q2, .int 0, .ref q3, .ref q4, .ref q5, .int 0, .ref q6, .int 0, .ref q7, .ref q8, .ref q9, .ref q10, .ref q11, .null, .null, .int 0, .int 0])), (q0, .inl (T 0, 10, .inl (fun _ => 0))), (q1, .inl (T 0, 120, .inl (fun _ => 0))), (q2, .inl (T 0, 120, .inl (fun _ => 0))), (q3, .inl (T 0, 5, .inl (fun _ => 0))), (q4, .inl (T 0, 5, .inl (fun _ => 0))), (q5, .inl (T 0, 5, .inl (fun _ => 0))), (q6, .inl (T 0, 12, .inl (fun _ => 0))), (q7, .inl (T 0, 24, .inl (fun _ => 0))), (q8, .inl (T 0, 24, .inl (fun _ => 0))), (q9, .inl (T 0, 24, .inl (fun _ => 0))), (q10, .inl (T 0, 24, .inl (fun _ => 0))), (q11, .inl (T 0, 24, .inl (fun _ => 0))), (q12, .inl (T 0, 24, .inl (fun _ => 0)))] H := hP
  have hD : va_D A [(h0, .inr (2, [.int 0, .ref q0, .ref q1, .ref q2, .int 0, .ref q3, .ref q4, .ref q5, .int 0, .ref q6, .int 0, .ref q7, .ref q8, .ref q9, .ref q10, .ref q11, .null, .null, .int 0, .int 0])), (q0, .inl (T 0, 10, .inl (fun _ => 0))), (q1, .inl (T 0, 120, .inl (fun _ => 0))), (q2, .inl (T 0, 120, .inl (fun _ => 0))), (q3, .inl (T 0, 5, .inl (fun _ => 0))), (q4, .inl (T 0, 5, .inl (fun _ => 0))), (q5, .inl (T 0, 5, .inl (fun _ => 0))), (q6, .inl (T 0, 12, .inl (fun _ => 0))), (q7, .inl (T 0, 24, .inl (fun _ => 0))), (q8, .inl (T 0, 24, .inl (fun _ => 0))), (q9, .inl (T 0, 24, .inl (fun _ => 0))), (q10, .inl (T 0, 24, .inl (fun _ => 0))), (q11, .inl (T 0, 24, .inl (fun _ => 0))), (q12, .inl (T 0, 24, .inl (fun _ => 0)))] := hD
  refine va_putF (D := D) (ci := 2) (v := .ref q12) (ty := (.array .int)) (C := RX2) (T := TX2) (N := 20) hx hb hts inX2 tyX2 tyX2_ok nmX2 hown hK hP hD hS 0 rfl rfl 16 (by decide) (hts _ q1_96) (fun _ h9 => h9) rfl hin rfl (by decide +kernel) rfl rfl (Nat.le_of_ble_eq_true rfl) di_X2_init_102 (fun H locs hP hD hS => ?_)
  have hP : va_P D vwCl [(h0, .inr (2, [.int 0, .ref q0, .ref q1, .ref q2, .int 0, .ref q3, .ref q4, .ref q5, .int 0, .ref q6, .int 0, .ref q7, .ref q8, .ref q9, .ref q10, .ref q11, .ref q12, .null, .int 0, .int 0])), (q0, .inl (T 0, 10, .inl (fun _ => 0))), (q1, .inl (T 0, 120, .inl (fun _ => 0))), (q2, .inl (T 0, 120, .inl (fun _ => 0))), (q3, .inl (T 0, 5, .inl (fun _ => 0))), (q4, .inl (T 0, 5, .inl (fun _ => 0))), (q5, .inl (T 0, 5, .inl (fun _ => 0))), (q6, .inl (T 0, 12, .inl (fun _ => 0))), (q7, .inl (T 0, 24, .inl (fun _ => 0))), (q8, .inl (T 0, 24, .inl (fun _ => 0))), (q9, .inl (T 0, 24, .inl (fun _ => 0))), (q10, .inl (T 0, 24, .inl (fun _ => 0))), (q11, .inl (T 0, 24, .inl (fun _ => 0))), (q12, .inl (T 0, 24, .inl (fun _ => 0)))] H := hP
  have hD : va_D A [(h0, .inr (2, [.int 0, .ref q0, .ref q1, .ref q2, .int 0, .ref q3, .ref q4, .ref q5, .int 0, .ref q6, .int 0, .ref q7, .ref q8, .ref q9, .ref q10, .ref q11, .ref q12, .null, .int 0, .int 0])), (q0, .inl (T 0, 10, .inl (fun _ => 0))), (q1, .inl (T 0, 120, .inl (fun _ => 0))), (q2, .inl (T 0, 120, .inl (fun _ => 0))), (q3, .inl (T 0, 5, .inl (fun _ => 0))), (q4, .inl (T 0, 5, .inl (fun _ => 0))), (q5, .inl (T 0, 5, .inl (fun _ => 0))), (q6, .inl (T 0, 12, .inl (fun _ => 0))), (q7, .inl (T 0, 24, .inl (fun _ => 0))), (q8, .inl (T 0, 24, .inl (fun _ => 0))), (q9, .inl (T 0, 24, .inl (fun _ => 0))), (q10, .inl (T 0, 24, .inl (fun _ => 0))), (q11, .inl (T 0, 24, .inl (fun _ => 0))), (q12, .inl (T 0, 24, .inl (fun _ => 0)))] := hD
  refine lv_aload_n hx hb di_X2_init_105 rfl (lv_at hl 0 rfl) ?_
  refine lv_iconst (v := 4) hx hb di_X2_init_106 (by decide) ?_
  refine zi_newa (atype := .int) (ty := .int) (t0 := 0) (N' := 4) (a0 := (4, .inl (fun _ => 0))) hx hb (hts _ q1_51) rfl rfl (fun _ h => h) hK hP hD hS hA (fun _ => rfl) (by decide) (by decide) (by decide) (show 14 ≤ 14 by decide) (show 425 ≤ 425 by decide) di_X2_init_107 (fun q13 H hP hD hS => ?_)
  refine W.widen (k := 14) (n := 425) (by omega) (by omega) ?_
  have hP : va_P D vwCl [(h0, .inr (2, [.int 0, .ref q0, .ref q1, .ref q2, .int 0, .ref q3, .ref q4, .ref q5, .int 0, .ref q6, .int 0, .ref q7, .ref q8, .ref q9, .ref q10, .ref q11, .ref q12, .null, .int 0, .int 0])), (q0, .inl (T 0, 10, .inl (fun _ => 0))), (q1, .inl (T 0, 120, .inl (fun _ => 0))), (q2, .inl (T 0, 120, .inl (fun _ => 0))), (q3, .inl (T 0, 5, .inl (fun _ => 0))), (q4, .inl (T 0, 5, .inl (fun _ => 0))), (q5, .inl (T 0, 5, .inl (fun _ => 0))), (q6, .inl (T 0, 12, .inl (fun _ => 0))), (q7, .inl (T 0, 24, .inl (fun _ => 0))), (q8, .inl (T 0, 24, .inl (fun _ => 0))), (q9, .inl (T 0, 24, .inl (fun _ => 0))), (q10, .inl (T 0, 24, .inl (fun _ => 0))), (q11, .inl (T 0, 24, .inl (fun _ => 0))), (q12, .inl (T 0, 24, .inl (fun _ => 0))), (q13, .inl (T 0, 4, .inl (fun _ => 0)))] H := hP
  have hD : va_D A [(h0, .inr (2, [.int 0, .ref q0, .ref q1, .ref q2, .int 0, .ref q3, .ref q4, .ref q5, .int 0, .ref q6, .int 0, .ref q7, .ref q8, .ref q9, .ref q10, .ref q11, .ref q12, .null, .int 0, .int 0])), (q0, .inl (T 0, 10, .inl (fun _ => 0))), (q1, .inl (T 0, 120, .inl (fun _ => 0))), (q2, .inl (T 0, 120, .inl (fun _ => 0))), (q3, .inl (T 0, 5, .inl (fun _ => 0))), (q4, .inl (T 0, 5, .inl (fun _ => 0))), (q5, .inl (T 0, 5, .inl (fun _ => 0))), (q6, .inl (T 0, 12, .inl (fun _ => 0))), (q7, .inl (T 0, 24, .inl (fun _ => 0))), (q8, .inl (T 0, 24, .inl (fun _ => 0))), (q9, .inl (T 0, 24, .inl (fun _ => 0))), (q10, .inl (T 0, 24, .inl (fun _ => 0))), (q11, .inl (T 0, 24, .inl (fun _ => 0))), (q12, .inl (T 0, 24, .inl (fun _ => 0))), (q13, .inl (T 0, 4, .inl (fun _ => 0)))] := hD
  refine va_putF (D := D) (ci := 2) (v := .ref q13) (ty := (.array .int)) (C := RX2) (T := TX2) (N := 20) hx hb hts inX2 tyX2 tyX2_ok nmX2 hown hK hP hD hS 0 rfl rfl 17 (by decide) (hts _ q1_100) (fun _ h9 => h9) rfl hin rfl (by decide +kernel) rfl rfl (Nat.le_of_ble_eq_true rfl) di_X2_init_109 (fun H locs hP hD hS => ?_)
  have hP : va_P D vwCl [(h0, .inr (2, [.int 0, .ref q0, .ref q1, .ref q2, .int 0, .ref q3, .ref q4, .ref q5, .int 0, .ref q6, .int 0, .ref q7, .ref q8, .ref q9, .ref q10, .ref q11, .ref q12, .ref q13, .int 0, .int 0])), (q0, .inl (T 0, 10, .inl (fun _ => 0))), (q1, .inl (T 0, 120, .inl (fun _ => 0))), (q2, .inl (T 0, 120, .inl (fun _ => 0))), (q3, .inl (T 0, 5, .inl (fun _ => 0))), (q4, .inl (T 0, 5, .inl (fun _ => 0))), (q5, .inl (T 0, 5, .inl (fun _ => 0))), (q6, .inl (T 0, 12, .inl (fun _ => 0))), (q7, .inl (T 0, 24, .inl (fun _ => 0))), (q8, .inl (T 0, 24, .inl (fun _ => 0))), (q9, .inl (T 0, 24, .inl (fun _ => 0))), (q10, .inl (T 0, 24, .inl (fun _ => 0))), (q11, .inl (T 0, 24, .inl (fun _ => 0))), (q12, .inl (T 0, 24, .inl (fun _ => 0))), (q13, .inl (T 0, 4, .inl (fun _ => 0)))] H := hP
  have hD : va_D A [(h0, .inr (2, [.int 0, .ref q0, .ref q1, .ref q2, .int 0, .ref q3, .ref q4, .ref q5, .int 0, .ref q6, .int 0, .ref q7, .ref q8, .ref q9, .ref q10, .ref q11, .ref q12, .ref q13, .int 0, .int 0])), (q0, .inl (T 0, 10, .inl (fun _ => 0))), (q1, .inl (T 0, 120, .inl (fun _ => 0))), (q2, .inl (T 0, 120, .inl (fun _ => 0))), (q3, .inl (T 0, 5, .inl (fun _ => 0))), (q4, .inl (T 0, 5, .inl (fun _ => 0))), (q5, .inl (T 0, 5, .inl (fun _ => 0))), (q6, .inl (T 0, 12, .inl (fun _ => 0))), (q7, .inl (T 0, 24, .inl (fun _ => 0))), (q8, .inl (T 0, 24, .inl (fun _ => 0))), (q9, .inl (T 0, 24, .inl (fun _ => 0))), (q10, .inl (T 0, 24, .inl (fun _ => 0))), (q11, .inl (T 0, 24, .inl (fun _ => 0))), (q12, .inl (T 0, 24, .inl (fun _ => 0))), (q13, .inl (T 0, 4, .inl (fun _ => 0)))] := hD
  refine lv_aload_n hx hb di_X2_init_112 rfl (lv_at hl 0 rfl) ?_
  refine lv_sipush (v := 1439) hx hb di_X2_init_113 (by decide) ?_
  refine va_put (D := D) (ci := 2) (v := .int 1439) (ty := .int) (C := RX2) (T := TX2) (N := 20) hx hb hts inX2 tyX2 tyX2_ok nmX2 hown hK hP hD hS 0 rfl rfl 19 (by decide) (hts _ q1_103) (fun _ h9 => h9) rfl (by decide +kernel) rfl rfl (Nat.le_of_ble_eq_true rfl) di_X2_init_116 (fun H locs hP hD hS => ?_)
  have hP : va_P D vwCl [(h0, .inr (2, [.int 0, .ref q0, .ref q1, .ref q2, .int 0, .ref q3, .ref q4, .ref q5, .int 0, .ref q6, .int 0, .ref q7, .ref q8, .ref q9, .ref q10, .ref q11, .ref q12, .ref q13, .int 0, .int 1439])), (q0, .inl (T 0, 10, .inl (fun _ => 0))), (q1, .inl (T 0, 120, .inl (fun _ => 0))), (q2, .inl (T 0, 120, .inl (fun _ => 0))), (q3, .inl (T 0, 5, .inl (fun _ => 0))), (q4, .inl (T 0, 5, .inl (fun _ => 0))), (q5, .inl (T 0, 5, .inl (fun _ => 0))), (q6, .inl (T 0, 12, .inl (fun _ => 0))), (q7, .inl (T 0, 24, .inl (fun _ => 0))), (q8, .inl (T 0, 24, .inl (fun _ => 0))), (q9, .inl (T 0, 24, .inl (fun _ => 0))), (q10, .inl (T 0, 24, .inl (fun _ => 0))), (q11, .inl (T 0, 24, .inl (fun _ => 0))), (q12, .inl (T 0, 24, .inl (fun _ => 0))), (q13, .inl (T 0, 4, .inl (fun _ => 0)))] H := hP
  have hD : va_D A [(h0, .inr (2, [.int 0, .ref q0, .ref q1, .ref q2, .int 0, .ref q3, .ref q4, .ref q5, .int 0, .ref q6, .int 0, .ref q7, .ref q8, .ref q9, .ref q10, .ref q11, .ref q12, .ref q13, .int 0, .int 1439])), (q0, .inl (T 0, 10, .inl (fun _ => 0))), (q1, .inl (T 0, 120, .inl (fun _ => 0))), (q2, .inl (T 0, 120, .inl (fun _ => 0))), (q3, .inl (T 0, 5, .inl (fun _ => 0))), (q4, .inl (T 0, 5, .inl (fun _ => 0))), (q5, .inl (T 0, 5, .inl (fun _ => 0))), (q6, .inl (T 0, 12, .inl (fun _ => 0))), (q7, .inl (T 0, 24, .inl (fun _ => 0))), (q8, .inl (T 0, 24, .inl (fun _ => 0))), (q9, .inl (T 0, 24, .inl (fun _ => 0))), (q10, .inl (T 0, 24, .inl (fun _ => 0))), (q11, .inl (T 0, 24, .inl (fun _ => 0))), (q12, .inl (T 0, 24, .inl (fun _ => 0))), (q13, .inl (T 0, 4, .inl (fun _ => 0)))] := hD
  refine lv_aload_n hx hb di_X2_init_119 rfl (lv_at hl 0 rfl) ?_
  refine va_get (D := D) (ci := 2) (v := .ref q5) (C := RX2) (T := TX2) (N := 20) hx hb hts inX2 hown hK hP 0 rfl rfl 7 (by decide) (hts _ q1_70) (fun _ h9 => h9) rfl di_X2_init_120 ?_
  refine lv_iconst (v := 0) hx hb di_X2_init_123 (by decide) ?_
  refine lv_iconst (v := 1) hx hb di_X2_init_124 (by decide) ?_
  refine va_iast hx hb hK hP hD hS 6 0 rfl rfl (by unfold vp_in; decide) di_X2_init_125 (fun H locs hP hD hS => ?_)
  have hP : va_P D vwCl [(h0, .inr (2, [.int 0, .ref q0, .ref q1, .ref q2, .int 0, .ref q3, .ref q4, .ref q5, .int 0, .ref q6, .int 0, .ref q7, .ref q8, .ref q9, .ref q10, .ref q11, .ref q12, .ref q13, .int 0, .int 1439])), (q0, .inl (T 0, 10, .inl (fun _ => 0))), (q1, .inl (T 0, 120, .inl (fun _ => 0))), (q2, .inl (T 0, 120, .inl (fun _ => 0))), (q3, .inl (T 0, 5, .inl (fun _ => 0))), (q4, .inl (T 0, 5, .inl (fun _ => 0))), (q5, .inl (T 0, 5, .inl (upd (fun _ => 0) (0 : Int32).toNatClampNeg 1))), (q6, .inl (T 0, 12, .inl (fun _ => 0))), (q7, .inl (T 0, 24, .inl (fun _ => 0))), (q8, .inl (T 0, 24, .inl (fun _ => 0))), (q9, .inl (T 0, 24, .inl (fun _ => 0))), (q10, .inl (T 0, 24, .inl (fun _ => 0))), (q11, .inl (T 0, 24, .inl (fun _ => 0))), (q12, .inl (T 0, 24, .inl (fun _ => 0))), (q13, .inl (T 0, 4, .inl (fun _ => 0)))] H := hP
  have hD : va_D A [(h0, .inr (2, [.int 0, .ref q0, .ref q1, .ref q2, .int 0, .ref q3, .ref q4, .ref q5, .int 0, .ref q6, .int 0, .ref q7, .ref q8, .ref q9, .ref q10, .ref q11, .ref q12, .ref q13, .int 0, .int 1439])), (q0, .inl (T 0, 10, .inl (fun _ => 0))), (q1, .inl (T 0, 120, .inl (fun _ => 0))), (q2, .inl (T 0, 120, .inl (fun _ => 0))), (q3, .inl (T 0, 5, .inl (fun _ => 0))), (q4, .inl (T 0, 5, .inl (fun _ => 0))), (q5, .inl (T 0, 5, .inl (upd (fun _ => 0) (0 : Int32).toNatClampNeg 1))), (q6, .inl (T 0, 12, .inl (fun _ => 0))), (q7, .inl (T 0, 24, .inl (fun _ => 0))), (q8, .inl (T 0, 24, .inl (fun _ => 0))), (q9, .inl (T 0, 24, .inl (fun _ => 0))), (q10, .inl (T 0, 24, .inl (fun _ => 0))), (q11, .inl (T 0, 24, .inl (fun _ => 0))), (q12, .inl (T 0, 24, .inl (fun _ => 0))), (q13, .inl (T 0, 4, .inl (fun _ => 0)))] := hD
  refine lv_aload_n hx hb di_X2_init_126 rfl (lv_at hl 0 rfl) ?_
  refine lv_iconst (v := 1) hx hb di_X2_init_127 (by decide) ?_
  refine va_put (D := D) (ci := 2) (v := .int 1) (ty := .int) (C := RX2) (T := TX2) (N := 20) hx hb hts inX2 tyX2 tyX2_ok nmX2 hown hK hP hD hS 0 rfl rfl 4 (by decide) (hts _ q1_63) (fun _ h9 => h9) rfl (by decide +kernel) rfl rfl (Nat.le_of_ble_eq_true rfl) di_X2_init_128 (fun H locs hP hD hS => ?_)
  have hP : va_P D vwCl [(h0, .inr (2, [.int 0, .ref q0, .ref q1, .ref q2, .int 1, .ref q3, .ref q4, .ref q5, .int 0, .ref q6, .int 0, .ref q7, .ref q8, .ref q9, .ref q10, .ref q11, .ref q12, .ref q13, .int 0, .int 1439])), (q0, .inl (T 0, 10, .inl (fun _ => 0))), (q1, .inl (T 0, 120, .inl (fun _ => 0))), (q2, .inl (T 0, 120, .inl (fun _ => 0))), (q3, .inl (T 0, 5, .inl (fun _ => 0))), (q4, .inl (T 0, 5, .inl (fun _ => 0))), (q5, .inl (T 0, 5, .inl (upd (fun _ => 0) (0 : Int32).toNatClampNeg 1))), (q6, .inl (T 0, 12, .inl (fun _ => 0))), (q7, .inl (T 0, 24, .inl (fun _ => 0))), (q8, .inl (T 0, 24, .inl (fun _ => 0))), (q9, .inl (T 0, 24, .inl (fun _ => 0))), (q10, .inl (T 0, 24, .inl (fun _ => 0))), (q11, .inl (T 0, 24, .inl (fun _ => 0))), (q12, .inl (T 0, 24, .inl (fun _ => 0))), (q13, .inl (T 0, 4, .inl (fun _ => 0)))] H := hP
  have hD : va_D A [(h0, .inr (2, [.int 0, .ref q0, .ref q1, .ref q2, .int 1, .ref q3, .ref q4, .ref q5, .int 0, .ref q6, .int 0, .ref q7, .ref q8, .ref q9, .ref q10, .ref q11, .ref q12, .ref q13, .int 0, .int 1439])), (q0, .inl (T 0, 10, .inl (fun _ => 0))), (q1, .inl (T 0, 120, .inl (fun _ => 0))), (q2, .inl (T 0, 120, .inl (fun _ => 0))), (q3, .inl (T 0, 5, .inl (fun _ => 0))), (q4, .inl (T 0, 5, .inl (fun _ => 0))), (q5, .inl (T 0, 5, .inl (upd (fun _ => 0) (0 : Int32).toNatClampNeg 1))), (q6, .inl (T 0, 12, .inl (fun _ => 0))), (q7, .inl (T 0, 24, .inl (fun _ => 0))), (q8, .inl (T 0, 24, .inl (fun _ => 0))), (q9, .inl (T 0, 24, .inl (fun _ => 0))), (q10, .inl (T 0, 24, .inl (fun _ => 0))), (q11, .inl (T 0, 24, .inl (fun _ => 0))), (q12, .inl (T 0, 24, .inl (fun _ => 0))), (q13, .inl (T 0, 4, .inl (fun _ => 0)))] := hD
  refine lv_aload_n hx hb di_X2_init_131 rfl (lv_at hl 0 rfl) ?_
  refine va_get (D := D) (ci := 2) (v := .ref q13) (C := RX2) (T := TX2) (N := 20) hx hb hts inX2 hown hK hP 0 rfl rfl 17 (by decide) (hts _ q1_100) (fun _ h9 => h9) rfl di_X2_init_132 ?_
  refine lv_iconst (v := 0) hx hb di_X2_init_135 (by decide) ?_
  refine lv_bipush (v := 100) hx hb di_X2_init_136 (by decide) ?_
  refine va_iast hx hb hK hP hD hS 14 0 rfl rfl (by unfold vp_in; decide) di_X2_init_138 (fun H locs hP hD hS => ?_)
  have hP : va_P D vwCl [(h0, .inr (2, [.int 0, .ref q0, .ref q1, .ref q2, .int 1, .ref q3, .ref q4, .ref q5, .int 0, .ref q6, .int 0, .ref q7, .ref q8, .ref q9, .ref q10, .ref q11, .ref q12, .ref q13, .int 0, .int 1439])), (q0, .inl (T 0, 10, .inl (fun _ => 0))), (q1, .inl (T 0, 120, .inl (fun _ => 0))), (q2, .inl (T 0, 120, .inl (fun _ => 0))), (q3, .inl (T 0, 5, .inl (fun _ => 0))), (q4, .inl (T 0, 5, .inl (fun _ => 0))), (q5, .inl (T 0, 5, .inl (upd (fun _ => 0) (0 : Int32).toNatClampNeg 1))), (q6, .inl (T 0, 12, .inl (fun _ => 0))), (q7, .inl (T 0, 24, .inl (fun _ => 0))), (q8, .inl (T 0, 24, .inl (fun _ => 0))), (q9, .inl (T 0, 24, .inl (fun _ => 0))), (q10, .inl (T 0, 24, .inl (fun _ => 0))), (q11, .inl (T 0, 24, .inl (fun _ => 0))), (q12, .inl (T 0, 24, .inl (fun _ => 0))), (q13, .inl (T 0, 4, .inl (upd (fun _ => 0) (0 : Int32).toNatClampNeg 100)))] H := hP
  have hD : va_D A [(h0, .inr (2, [.int 0, .ref q0, .ref q1, .ref q2, .int 1, .ref q3, .ref q4, .ref q5, .int 0, .ref q6, .int 0, .ref q7, .ref q8, .ref q9, .ref q10, .ref q11, .ref q12, .ref q13, .int 0, .int 1439])), (q0, .inl (T 0, 10, .inl (fun _ => 0))), (q1, .inl (T 0, 120, .inl (fun _ => 0))), (q2, .inl (T 0, 120, .inl (fun _ => 0))), (q3, .inl (T 0, 5, .inl (fun _ => 0))), (q4, .inl (T 0, 5, .inl (fun _ => 0))), (q5, .inl (T 0, 5, .inl (upd (fun _ => 0) (0 : Int32).toNatClampNeg 1))), (q6, .inl (T 0, 12, .inl (fun _ => 0))), (q7, .inl (T 0, 24, .inl (fun _ => 0))), (q8, .inl (T 0, 24, .inl (fun _ => 0))), (q9, .inl (T 0, 24, .inl (fun _ => 0))), (q10, .inl (T 0, 24, .inl (fun _ => 0))), (q11, .inl (T 0, 24, .inl (fun _ => 0))), (q12, .inl (T 0, 24, .inl (fun _ => 0))), (q13, .inl (T 0, 4, .inl (upd (fun _ => 0) (0 : Int32).toNatClampNeg 100)))] := hD
  refine lv_aload_n hx hb di_X2_init_139 rfl (lv_at hl 0 rfl) ?_
  refine va_get (D := D) (ci := 2) (v := .ref q13) (C := RX2) (T := TX2) (N := 20) hx hb hts inX2 hown hK hP 0 rfl rfl 17 (by decide) (hts _ q1_100) (fun _ h9 => h9) rfl di_X2_init_140 ?_
  refine lv_iconst (v := 1) hx hb di_X2_init_143 (by decide) ?_
  refine lv_bipush (v := 80) hx hb di_X2_init_144 (by decide) ?_
  refine va_iast hx hb hK hP hD hS 14 0 rfl rfl (by unfold vp_in; decide) di_X2_init_146 (fun H locs hP hD hS => ?_)
  have hP : va_P D vwCl [(h0, .inr (2, [.int 0, .ref q0, .ref q1, .ref q2, .int 1, .ref q3, .ref q4, .ref q5, .int 0, .ref q6, .int 0, .ref q7, .ref q8, .ref q9, .ref q10, .ref q11, .ref q12, .ref q13, .int 0, .int 1439])), (q0, .inl (T 0, 10, .inl (fun _ => 0))), (q1, .inl (T 0, 120, .inl (fun _ => 0))), (q2, .inl (T 0, 120, .inl (fun _ => 0))), (q3, .inl (T 0, 5, .inl (fun _ => 0))), (q4, .inl (T 0, 5, .inl (fun _ => 0))), (q5, .inl (T 0, 5, .inl (upd (fun _ => 0) (0 : Int32).toNatClampNeg 1))), (q6, .inl (T 0, 12, .inl (fun _ => 0))), (q7, .inl (T 0, 24, .inl (fun _ => 0))), (q8, .inl (T 0, 24, .inl (fun _ => 0))), (q9, .inl (T 0, 24, .inl (fun _ => 0))), (q10, .inl (T 0, 24, .inl (fun _ => 0))), (q11, .inl (T 0, 24, .inl (fun _ => 0))), (q12, .inl (T 0, 24, .inl (fun _ => 0))), (q13, .inl (T 0, 4, .inl (upd (upd (fun _ => 0) (0 : Int32).toNatClampNeg 100) (1 : Int32).toNatClampNeg 80)))] H := hP
  have hD : va_D A [(h0, .inr (2, [.int 0, .ref q0, .ref q1, .ref q2, .int 1, .ref q3, .ref q4, .ref q5, .int 0, .ref q6, .int 0, .ref q7, .ref q8, .ref q9, .ref q10, .ref q11, .ref q12, .ref q13, .int 0, .int 1439])), (q0, .inl (T 0, 10, .inl (fun _ => 0))), (q1, .inl (T 0, 120, .inl (fun _ => 0))), (q2, .inl (T 0, 120, .inl (fun _ => 0))), (q3, .inl (T 0, 5, .inl (fun _ => 0))), (q4, .inl (T 0, 5, .inl (fun _ => 0))), (q5, .inl (T 0, 5, .inl (upd (fun _ => 0) (0 : Int32).toNatClampNeg 1))), (q6, .inl (T 0, 12, .inl (fun _ => 0))), (q7, .inl (T 0, 24, .inl (fun _ => 0))), (q8, .inl (T 0, 24, .inl (fun _ => 0))), (q9, .inl (T 0, 24, .inl (fun _ => 0))), (q10, .inl (T 0, 24, .inl (fun _ => 0))), (q11, .inl (T 0, 24, .inl (fun _ => 0))), (q12, .inl (T 0, 24, .inl (fun _ => 0))), (q13, .inl (T 0, 4, .inl (upd (upd (fun _ => 0) (0 : Int32).toNatClampNeg 100) (1 : Int32).toNatClampNeg 80)))] := hD
  refine lv_aload_n hx hb di_X2_init_147 rfl (lv_at hl 0 rfl) ?_
  refine va_get (D := D) (ci := 2) (v := .ref q13) (C := RX2) (T := TX2) (N := 20) hx hb hts inX2 hown hK hP 0 rfl rfl 17 (by decide) (hts _ q1_100) (fun _ h9 => h9) rfl di_X2_init_148 ?_
  refine lv_iconst (v := 2) hx hb di_X2_init_151 (by decide) ?_
  refine lv_sipush (v := 150) hx hb di_X2_init_152 (by decide) ?_
  refine va_iast hx hb hK hP hD hS 14 0 rfl rfl (by unfold vp_in; decide) di_X2_init_155 (fun H locs hP hD hS => ?_)
  have hP : va_P D vwCl [(h0, .inr (2, [.int 0, .ref q0, .ref q1, .ref q2, .int 1, .ref q3, .ref q4, .ref q5, .int 0, .ref q6, .int 0, .ref q7, .ref q8, .ref q9, .ref q10, .ref q11, .ref q12, .ref q13, .int 0, .int 1439])), (q0, .inl (T 0, 10, .inl (fun _ => 0))), (q1, .inl (T 0, 120, .inl (fun _ => 0))), (q2, .inl (T 0, 120, .inl (fun _ => 0))), (q3, .inl (T 0, 5, .inl (fun _ => 0))), (q4, .inl (T 0, 5, .inl (fun _ => 0))), (q5, .inl (T 0, 5, .inl (upd (fun _ => 0) (0 : Int32).toNatClampNeg 1))), (q6, .inl (T 0, 12, .inl (fun _ => 0))), (q7, .inl (T 0, 24, .inl (fun _ => 0))), (q8, .inl (T 0, 24, .inl (fun _ => 0))), (q9, .inl (T 0, 24, .inl (fun _ => 0))), (q10, .inl (T 0, 24, .inl (fun _ => 0))), (q11, .inl (T 0, 24, .inl (fun _ => 0))), (q12, .inl (T 0, 24, .inl (fun _ => 0))), (q13, .inl (T 0, 4, .inl (upd (upd (upd (fun _ => 0) (0 : Int32).toNatClampNeg 100) (1 : Int32).toNatClampNeg 80) (2 : Int32).toNatClampNeg 150)))] H := hP
  have hD : va_D A [(h0, .inr (2, [.int 0, .ref q0, .ref q1, .ref q2, .int 1, .ref q3, .ref q4, .ref q5, .int 0, .ref q6, .int 0, .ref q7, .ref q8, .ref q9, .ref q10, .ref q11, .ref q12, .ref q13, .int 0, .int 1439])), (q0, .inl (T 0, 10, .inl (fun _ => 0))), (q1, .inl (T 0, 120, .inl (fun _ => 0))), (q2, .inl (T 0, 120, .inl (fun _ => 0))), (q3, .inl (T 0, 5, .inl (fun _ => 0))), (q4, .inl (T 0, 5, .inl (fun _ => 0))), (q5, .inl (T 0, 5, .inl (upd (fun _ => 0) (0 : Int32).toNatClampNeg 1))), (q6, .inl (T 0, 12, .inl (fun _ => 0))), (q7, .inl (T 0, 24, .inl (fun _ => 0))), (q8, .inl (T 0, 24, .inl (fun _ => 0))), (q9, .inl (T 0, 24, .inl (fun _ => 0))), (q10, .inl (T 0, 24, .inl (fun _ => 0))), (q11, .inl (T 0, 24, .inl (fun _ => 0))), (q12, .inl (T 0, 24, .inl (fun _ => 0))), (q13, .inl (T 0, 4, .inl (upd (upd (upd (fun _ => 0) (0 : Int32).toNatClampNeg 100) (1 : Int32).toNatClampNeg 80) (2 : Int32).toNatClampNeg 150)))] := hD
  refine lv_aload_n hx hb di_X2_init_156 rfl (lv_at hl 0 rfl) ?_
  refine va_get (D := D) (ci := 2) (v := .ref q13) (C := RX2) (T := TX2) (N := 20) hx hb hts inX2 hown hK hP 0 rfl rfl 17 (by decide) (hts _ q1_100) (fun _ h9 => h9) rfl di_X2_init_157 ?_
  refine lv_iconst (v := 3) hx hb di_X2_init_160 (by decide) ?_
  refine lv_sipush (v := 300) hx hb di_X2_init_161 (by decide) ?_
  refine va_iast hx hb hK hP hD hS 14 0 rfl rfl (by unfold vp_in; decide) di_X2_init_164 (fun H locs hP hD hS => ?_)
  have hP : va_P D vwCl [(h0, .inr (2, [.int 0, .ref q0, .ref q1, .ref q2, .int 1, .ref q3, .ref q4, .ref q5, .int 0, .ref q6, .int 0, .ref q7, .ref q8, .ref q9, .ref q10, .ref q11, .ref q12, .ref q13, .int 0, .int 1439])), (q0, .inl (T 0, 10, .inl (fun _ => 0))), (q1, .inl (T 0, 120, .inl (fun _ => 0))), (q2, .inl (T 0, 120, .inl (fun _ => 0))), (q3, .inl (T 0, 5, .inl (fun _ => 0))), (q4, .inl (T 0, 5, .inl (fun _ => 0))), (q5, .inl (T 0, 5, .inl (upd (fun _ => 0) (0 : Int32).toNatClampNeg 1))), (q6, .inl (T 0, 12, .inl (fun _ => 0))), (q7, .inl (T 0, 24, .inl (fun _ => 0))), (q8, .inl (T 0, 24, .inl (fun _ => 0))), (q9, .inl (T 0, 24, .inl (fun _ => 0))), (q10, .inl (T 0, 24, .inl (fun _ => 0))), (q11, .inl (T 0, 24, .inl (fun _ => 0))), (q12, .inl (T 0, 24, .inl (fun _ => 0))), (q13, .inl (T 0, 4, .inl (upd (upd (upd (upd (fun _ => 0) (0 : Int32).toNatClampNeg 100) (1 : Int32).toNatClampNeg 80) (2 : Int32).toNatClampNeg 150) (3 : Int32).toNatClampNeg 300)))] H := hP
  have hD : va_D A [(h0, .inr (2, [.int 0, .ref q0, .ref q1, .ref q2, .int 1, .ref q3, .ref q4, .ref q5, .int 0, .ref q6, .int 0, .ref q7, .ref q8, .ref q9, .ref q10, .ref q11, .ref q12, .ref q13, .int 0, .int 1439])), (q0, .inl (T 0, 10, .inl (fun _ => 0))), (q1, .inl (T 0, 120, .inl (fun _ => 0))), (q2, .inl (T 0, 120, .inl (fun _ => 0))), (q3, .inl (T 0, 5, .inl (fun _ => 0))), (q4, .inl (T 0, 5, .inl (fun _ => 0))), (q5, .inl (T 0, 5, .inl (upd (fun _ => 0) (0 : Int32).toNatClampNeg 1))), (q6, .inl (T 0, 12, .inl (fun _ => 0))), (q7, .inl (T 0, 24, .inl (fun _ => 0))), (q8, .inl (T 0, 24, .inl (fun _ => 0))), (q9, .inl (T 0, 24, .inl (fun _ => 0))), (q10, .inl (T 0, 24, .inl (fun _ => 0))), (q11, .inl (T 0, 24, .inl (fun _ => 0))), (q12, .inl (T 0, 24, .inl (fun _ => 0))), (q13, .inl (T 0, 4, .inl (upd (upd (upd (upd (fun _ => 0) (0 : Int32).toNatClampNeg 100) (1 : Int32).toNatClampNeg 80) (2 : Int32).toNatClampNeg 150) (3 : Int32).toNatClampNeg 300)))] := hD
  exact W.vret hx hb hr (fun t ht hW => ⟨⟨fun j => ([q0, q1, q2, q3, q4, q5, q6, q7, q8, q9, q10, q11, q12, q13] : List Nat).getD j 0, rfl, trivial, by rw [ht]; exact hP, va_K.moved hW.alike hK, hD⟩, hS.F ht⟩) hS.2.2 di_X2_init_165
theorem di_X3_init_0 : decode cX3_init 0 = .ok (.aload_n 0, 1) := by decide +kernel
theorem di_X3_init_1 : decode cX3_init 1 = .ok (.invokespecial 3, 3) := by decide +kernel
theorem di_X3_init_4 : decode cX3_init 4 = .ok (.aload_n 0, 1) := by decide +kernel
theorem di_X3_init_5 : decode cX3_init 5 = .ok (.bipush 12, 2) := by decide +kernel
theorem di_X3_init_7 : decode cX3_init 7 = .ok (.newarray .int, 2) := by decide +kernel
theorem di_X3_init_9 : decode cX3_init 9 = .ok (.putfield 9, 3) := by decide +kernel
theorem di_X3_init_12 : decode cX3_init 12 = .ok (.aload_n 0, 1) := by decide +kernel
theorem di_X3_init_13 : decode cX3_init 13 = .ok (.aload_n 1, 1) := by decide +kernel
theorem di_X3_init_14 : decode cX3_init 14 = .ok (.putfield 15, 3) := by decide +kernel
theorem di_X3_init_17 : decode cX3_init 17 = .ok (.aload_n 0, 1) := by decide +kernel
theorem di_X3_init_18 : decode cX3_init 18 = .ok (.aload_n 2, 1) := by decide +kernel
theorem di_X3_init_19 : decode cX3_init 19 = .ok (.putfield 19, 3) := by decide +kernel
theorem di_X3_init_22 : decode cX3_init 22 = .ok (.return_, 1) := by decide +kernel
def k_X3_init : zM := (yX3_init, cX3_init, 3, none)
set_option maxHeartbeats 16000000 in
set_option maxRecDepth 100000 in
theorem i_X3_init (l : Launch) (D : va_G) (T : Nat → ClassId) (h0 sz a1 a2 : Nat) : Met l yX3_init (zws k_X3_init) ({ frames := 1, cells := 1, slots := 12, locals := 12 }) (va_Pc [.ref h0, .ref a1, .ref a2] (iPre D T [(h0, .inr (3, [.null, .null, .null, .int 0, .int 0, .int 0, .int 0]))] sz)) (va_Qv (fun _ : Nat → Nat => True) (fun u t => va_P D vwCl [(h0, .inr (3, [.ref a1, .ref a2, .ref (u 0), .int 0, .int 0, .int 0, .int 0])), ((u 0), .inl (T 0, 12, .inl (fun _ => 0)))] t.heap ∧ va_K D vwCl (tysT T) t ∧ va_D (va_A [(h0, .inr (3, [.null, .null, .null, .int 0, .int 0, .int 0, .int 0]))] sz) [(h0, .inr (3, [.ref a1, .ref a2, .ref (u 0), .int 0, .int 0, .int 0, .int 0])), ((u 0), .inl (T 0, 12, .inl (fun _ => 0)))]) (va_A [(h0, .inr (3, [.null, .null, .null, .int 0, .int 0, .int 0, .int 0]))] sz)) 1 12 (va_A [(h0, .inr (3, [.null, .null, .null, .int 0, .int 0, .int 0, .int 0]))] sz) := by
  refine Met.ofW (cc := cX3_init) (maxL := 3) (ret := none) (by decide) rfl ?_
  intro p e s m args below meth c s₁ B hml hv
  obtain ⟨rfl, hsz, hP, hK, hD0⟩ := hv
  have hx := B.exec
  have hb := B.bytes
  have hr := B.returns
  have hts0 := atoms_spec (ws := zws k_X3_init) B.pre
  have hts : ∀ w ∈ BIG, w.before _ s = true := fun w hw => hts0 w (List.mem_cons_of_mem _ hw)
  have hown : s.vm.findClass RX3 = some m.cls := findClass_of_methodNamed B.named
  have hlocks := B.notSynchronized
  have hin : meth.name = "<init>" := (name_of_methodNamed B.named B.method).1
  clear hts0
  subst hsz
  have hD := hD0.self (sz := s.heap.size)
  generalize hAe : va_A [(h0, .inr (3, [.null, .null, .null, .int 0, .int 0, .int 0, .int 0]))] s.heap.size = A at hD ⊢
  have hA : ∀ q : Nat, s.heap.size ≤ q → A q := fun q h => by rw [← hAe]; exact Or.inr h
  have hS : va_S A s.heap s.heap [] := va_S.rf
  have hl := lv_entry ([.ref h0, .ref a1, .ref a2]) (n := 3) (Nat.le_of_ble_eq_true rfl)
  rw [lg_entry_eq]
  generalize (lg_sl ([.ref h0, .ref a1, .ref a2]) ++ List.replicate (3 - (lg_sl ([.ref h0, .ref a1, .ref a2])).length) Slot.unset).toArray = ls at hl ⊢
  have hl : lv_has ls 3 [(0, .ref h0), (1, .ref a1), (2, .ref a2)] := hl
  refine lv_aload_n hx hb di_X3_init_0 rfl (lv_at hl 0 rfl) ?_
  refine W.objInit hx hb hown (hts _ q1_204) (hts _ q1_20) (hts _ q1_21) rfl (by rw [hml]; exact hl.1) rfl di_X3_init_1 (Nat.le_of_ble_eq_true rfl) (Nat.le_of_ble_eq_true rfl) ?_
  refine W.eq (g2 := F0 m 4 ls []) rfl ?_
  refine lv_aload_n hx hb di_X3_init_4 rfl (lv_at hl 0 rfl) ?_
  refine lv_bipush (v := 12) hx hb di_X3_init_5 (by decide) ?_
  refine zi_newa (atype := .int) (ty := .int) (t0 := 0) (N' := 12) (a0 := (12, .inl (fun _ => 0))) hx hb (hts _ q1_51) rfl rfl (fun _ h => h) hK hP hD hS hA (fun _ => rfl) (by decide) (by decide) (by decide) (show 1 ≤ 1 by decide) (show 12 ≤ 12 by decide) di_X3_init_7 (fun q0 H hP hD hS => ?_)
  refine W.widen (k := 1) (n := 12) (by omega) (by omega) ?_
  have hP : va_P D vwCl [(h0, .inr (3, [.null, .null, .null, .int 0, .int 0, .int 0, .int 0])), (q0, .inl (T 0, 12, .inl (fun _ => 0)))] H := hP
  have hD : va_D A [(h0, .inr (3, [.null, .null, .null, .int 0, .int 0, .int 0, .int 0])), (q0, .inl (T 0, 12, .inl (fun _ => 0)))] := hD
  refine va_putF (D := D) (ci := 3) (v := .ref q0) (ty := (.array .int)) (C := RX3) (T := TX3) (N := 7) hx hb hts inX3 tyX3 tyX3_ok nmX3 hown hK hP hD hS 0 rfl rfl 2 (by decide) (hts _ q1_207) (fun _ h9 => h9) rfl hin rfl (by decide +kernel) rfl rfl (Nat.le_of_ble_eq_true rfl) di_X3_init_9 (fun H locs hP hD hS => ?_)
  have hP : va_P D vwCl [(h0, .inr (3, [.null, .null, .ref q0, .int 0, .int 0, .int 0, .int 0])), (q0, .inl (T 0, 12, .inl (fun _ => 0)))] H := hP
  have hD : va_D A [(h0, .inr (3, [.null, .null, .ref q0, .int 0, .int 0, .int 0, .int 0])), (q0, .inl (T 0, 12, .inl (fun _ => 0)))] := hD
  refine lv_aload_n hx hb di_X3_init_12 rfl (lv_at hl 0 rfl) ?_
  refine lv_aload_n hx hb di_X3_init_13 rfl (lv_at hl 1 rfl) ?_
  refine va_putF (D := D) (ci := 3) (v := .ref a1) (ty := (.object "RoundPoint$Coast")) (C := RX3) (T := TX3) (N := 7) hx hb hts inX3 tyX3 tyX3_ok nmX3 hown hK hP hD hS 0 rfl rfl 0 (by decide) (hts _ q1_205) (fun _ h9 => h9) rfl hin rfl (by decide +kernel) rfl rfl (Nat.le_of_ble_eq_true rfl) di_X3_init_14 (fun H locs hP hD hS => ?_)
  have hP : va_P D vwCl [(h0, .inr (3, [.ref a1, .null, .ref q0, .int 0, .int 0, .int 0, .int 0])), (q0, .inl (T 0, 12, .inl (fun _ => 0)))] H := hP
  have hD : va_D A [(h0, .inr (3, [.ref a1, .null, .ref q0, .int 0, .int 0, .int 0, .int 0])), (q0, .inl (T 0, 12, .inl (fun _ => 0)))] := hD
  refine lv_aload_n hx hb di_X3_init_17 rfl (lv_at hl 0 rfl) ?_
  refine lv_aload_n hx hb di_X3_init_18 rfl (lv_at hl 2 rfl) ?_
  refine va_putF (D := D) (ci := 3) (v := .ref a2) (ty := (.object "RoundPoint$Sea")) (C := RX3) (T := TX3) (N := 7) hx hb hts inX3 tyX3 tyX3_ok nmX3 hown hK hP hD hS 0 rfl rfl 1 (by decide) (hts _ q1_206) (fun _ h9 => h9) rfl hin rfl (by decide +kernel) rfl rfl (Nat.le_of_ble_eq_true rfl) di_X3_init_19 (fun H locs hP hD hS => ?_)
  have hP : va_P D vwCl [(h0, .inr (3, [.ref a1, .ref a2, .ref q0, .int 0, .int 0, .int 0, .int 0])), (q0, .inl (T 0, 12, .inl (fun _ => 0)))] H := hP
  have hD : va_D A [(h0, .inr (3, [.ref a1, .ref a2, .ref q0, .int 0, .int 0, .int 0, .int 0])), (q0, .inl (T 0, 12, .inl (fun _ => 0)))] := hD
  exact W.vret hx hb hr (fun t ht hW => ⟨⟨fun j => ([q0] : List Nat).getD j 0, rfl, trivial, by rw [ht]; exact hP, va_K.moved hW.alike hK, hD⟩, hS.F ht⟩) hS.2.2 di_X3_init_22
theorem di_X4_init_0 : decode cX4_init 0 = .ok (.aload_n 0, 1) := by decide +kernel
theorem di_X4_init_1 : decode cX4_init 1 = .ok (.invokespecial 3, 3) := by decide +kernel
theorem di_X4_init_4 : decode cX4_init 4 = .ok (.aload_n 0, 1) := by decide +kernel
theorem di_X4_init_5 : decode cX4_init 5 = .ok (.sipush 1440, 3) := by decide +kernel
theorem di_X4_init_8 : decode cX4_init 8 = .ok (.newarray .int, 2) := by decide +kernel
theorem di_X4_init_10 : decode cX4_init 10 = .ok (.putfield 9, 3) := by decide +kernel
theorem di_X4_init_13 : decode cX4_init 13 = .ok (.aload_n 0, 1) := by decide +kernel
theorem di_X4_init_14 : decode cX4_init 14 = .ok (.sipush 1440, 3) := by decide +kernel
theorem di_X4_init_17 : decode cX4_init 17 = .ok (.newarray .int, 2) := by decide +kernel
theorem di_X4_init_19 : decode cX4_init 19 = .ok (.putfield 15, 3) := by decide +kernel
theorem di_X4_init_22 : decode cX4_init 22 = .ok (.aload_n 0, 1) := by decide +kernel
theorem di_X4_init_23 : decode cX4_init 23 = .ok (.iconst (-1), 1) := by decide +kernel
theorem di_X4_init_24 : decode cX4_init 24 = .ok (.putfield 18, 3) := by decide +kernel
theorem di_X4_init_27 : decode cX4_init 27 = .ok (.aload_n 0, 1) := by decide +kernel
theorem di_X4_init_28 : decode cX4_init 28 = .ok (.aload_n 1, 1) := by decide +kernel
theorem di_X4_init_29 : decode cX4_init 29 = .ok (.putfield 22, 3) := by decide +kernel
theorem di_X4_init_32 : decode cX4_init 32 = .ok (.return_, 1) := by decide +kernel
def k_X4_init : zM := (yX4_init, cX4_init, 2, none)
set_option maxHeartbeats 16000000 in
set_option maxRecDepth 100000 in
theorem i_X4_init (l : Launch) (D : va_G) (T : Nat → ClassId) (h0 sz a1 : Nat) : Met l yX4_init (zws k_X4_init) ({ frames := 1, cells := 2, slots := 2880, locals := 12 }) (va_Pc [.ref h0, .ref a1] (iPre D T [(h0, .inr (4, [.null, .null, .null, .int 0, .int 0]))] sz)) (va_Qv (fun _ : Nat → Nat => True) (fun u t => va_P D vwCl [(h0, .inr (4, [.ref a1, .ref (u 0), .ref (u 1), .int (-1), .int 0])), ((u 0), .inl (T 0, 1440, .inl (fun _ => 0))), ((u 1), .inl (T 0, 1440, .inl (fun _ => 0)))] t.heap ∧ va_K D vwCl (tysT T) t ∧ va_D (va_A [(h0, .inr (4, [.null, .null, .null, .int 0, .int 0]))] sz) [(h0, .inr (4, [.ref a1, .ref (u 0), .ref (u 1), .int (-1), .int 0])), ((u 0), .inl (T 0, 1440, .inl (fun _ => 0))), ((u 1), .inl (T 0, 1440, .inl (fun _ => 0)))]) (va_A [(h0, .inr (4, [.null, .null, .null, .int 0, .int 0]))] sz)) 2 2880 (va_A [(h0, .inr (4, [.null, .null, .null, .int 0, .int 0]))] sz) := by
  refine Met.ofW (cc := cX4_init) (maxL := 2) (ret := none) (by decide) rfl ?_
  intro p e s m args below meth c s₁ B hml hv
  obtain ⟨rfl, hsz, hP, hK, hD0⟩ := hv
  have hx := B.exec
  have hb := B.bytes
  have hr := B.returns
  have hts0 := atoms_spec (ws := zws k_X4_init) B.pre
  have hts : ∀ w ∈ BIG, w.before _ s = true := fun w hw => hts0 w (List.mem_cons_of_mem _ hw)
  have hown : s.vm.findClass RX4 = some m.cls := findClass_of_methodNamed B.named
  have hlocks := B.notSynchronized
  have hin : meth.name = "<init>" := (name_of_methodNamed B.named B.method).1
  clear hts0
  subst hsz
  have hD := hD0.self (sz := s.heap.size)
  generalize hAe : va_A [(h0, .inr (4, [.null, .null, .null, .int 0, .int 0]))] s.heap.size = A at hD ⊢
  have hA : ∀ q : Nat, s.heap.size ≤ q → A q := fun q h => by rw [← hAe]; exact Or.inr h
  have hS : va_S A s.heap s.heap [] := va_S.rf
  have hl := lv_entry ([.ref h0, .ref a1]) (n := 2) (Nat.le_of_ble_eq_true rfl)
  rw [lg_entry_eq]
  generalize (lg_sl ([.ref h0, .ref a1]) ++ List.replicate (2 - (lg_sl ([.ref h0, .ref a1])).length) Slot.unset).toArray = ls at hl ⊢
  have hl : lv_has ls 2 [(0, .ref h0), (1, .ref a1)] := hl
  refine lv_aload_n hx hb di_X4_init_0 rfl (lv_at hl 0 rfl) ?_
  refine W.objInit hx hb hown (hts _ q1_152) (hts _ q1_20) (hts _ q1_21) rfl (by rw [hml]; exact hl.1) rfl di_X4_init_1 (Nat.le_of_ble_eq_true rfl) (Nat.le_of_ble_eq_true rfl) ?_
  refine W.eq (g2 := F0 m 4 ls []) rfl ?_
  refine lv_aload_n hx hb di_X4_init_4 rfl (lv_at hl 0 rfl) ?_
  refine lv_sipush (v := 1440) hx hb di_X4_init_5 (by decide) ?_
  refine zi_newa (atype := .int) (ty := .int) (t0 := 0) (N' := 1440) (a0 := (1440, .inl (fun _ => 0))) hx hb (hts _ q1_51) rfl rfl (fun _ h => h) hK hP hD hS hA (fun _ => rfl) (by decide) (by decide) (by decide) (show 1 ≤ 2 by decide) (show 1440 ≤ 2880 by decide) di_X4_init_8 (fun q0 H hP hD hS => ?_)
  refine W.widen (k := 1) (n := 1440) (by omega) (by omega) ?_
  have hP : va_P D vwCl [(h0, .inr (4, [.null, .null, .null, .int 0, .int 0])), (q0, .inl (T 0, 1440, .inl (fun _ => 0)))] H := hP
  have hD : va_D A [(h0, .inr (4, [.null, .null, .null, .int 0, .int 0])), (q0, .inl (T 0, 1440, .inl (fun _ => 0)))] := hD
  refine va_putF (D := D) (ci := 4) (v := .ref q0) (ty := (.array .int)) (C := RX4) (T := TX4) (N := 5) hx hb hts inX4 tyX4 tyX4_ok nmX4 hown hK hP hD hS 0 rfl rfl 1 (by decide) (hts _ q1_154) (fun _ h9 => h9) rfl hin rfl (by decide +kernel) rfl rfl (Nat.le_of_ble_eq_true rfl) di_X4_init_10 (fun H locs hP hD hS => ?_)
  have hP : va_P D vwCl [(h0, .inr (4, [.null, .ref q0, .null, .int 0, .int 0])), (q0, .inl (T 0, 1440, .inl (fun _ => 0)))] H := hP
  have hD : va_D A [(h0, .inr (4, [.null, .ref q0, .null, .int 0, .int 0])), (q0, .inl (T 0, 1440, .inl (fun _ => 0)))] := hD
  refine lv_aload_n hx hb di_X4_init_13 rfl (lv_at hl 0 rfl) ?_
  refine lv_sipush (v := 1440) hx hb di_X4_init_14 (by decide) ?_
  refine zi_newa (atype := .int) (ty := .int) (t0 := 0) (N' := 1440) (a0 := (1440, .inl (fun _ => 0))) hx hb (hts _ q1_51) rfl rfl (fun _ h => h) hK hP hD hS hA (fun _ => rfl) (by decide) (by decide) (by decide) (show 2 ≤ 2 by decide) (show 2880 ≤ 2880 by decide) di_X4_init_17 (fun q1 H hP hD hS => ?_)
  refine W.widen (k := 2) (n := 2880) (by omega) (by omega) ?_
  have hP : va_P D vwCl [(h0, .inr (4, [.null, .ref q0, .null, .int 0, .int 0])), (q0, .inl (T 0, 1440, .inl (fun _ => 0))), (q1, .inl (T 0, 1440, .inl (fun _ => 0)))] H := hP
  have hD : va_D A [(h0, .inr (4, [.null, .ref q0, .null, .int 0, .int 0])), (q0, .inl (T 0, 1440, .inl (fun _ => 0))), (q1, .inl (T 0, 1440, .inl (fun _ => 0)))] := hD
  refine va_putF (D := D) (ci := 4) (v := .ref q1) (ty := (.array .int)) (C := RX4) (T := TX4) (N := 5) hx hb hts inX4 tyX4 tyX4_ok nmX4 hown hK hP hD hS 0 rfl rfl 2 (by decide) (hts _ q1_155) (fun _ h9 => h9) rfl hin rfl (by decide +kernel) rfl rfl (Nat.le_of_ble_eq_true rfl) di_X4_init_19 (fun H locs hP hD hS => ?_)
  have hP : va_P D vwCl [(h0, .inr (4, [.null, .ref q0, .ref q1, .int 0, .int 0])), (q0, .inl (T 0, 1440, .inl (fun _ => 0))), (q1, .inl (T 0, 1440, .inl (fun _ => 0)))] H := hP
  have hD : va_D A [(h0, .inr (4, [.null, .ref q0, .ref q1, .int 0, .int 0])), (q0, .inl (T 0, 1440, .inl (fun _ => 0))), (q1, .inl (T 0, 1440, .inl (fun _ => 0)))] := hD
  refine lv_aload_n hx hb di_X4_init_22 rfl (lv_at hl 0 rfl) ?_
  refine lv_iconst (v := (-1)) hx hb di_X4_init_23 (by decide) ?_
  refine va_put (D := D) (ci := 4) (v := .int (-1)) (ty := .int) (C := RX4) (T := TX4) (N := 5) hx hb hts inX4 tyX4 tyX4_ok nmX4 hown hK hP hD hS 0 rfl rfl 3 (by decide) (hts _ q1_157) (fun _ h9 => h9) rfl (by decide +kernel) rfl rfl (Nat.le_of_ble_eq_true rfl) di_X4_init_24 (fun H locs hP hD hS => ?_)
  have hP : va_P D vwCl [(h0, .inr (4, [.null, .ref q0, .ref q1, .int (-1), .int 0])), (q0, .inl (T 0, 1440, .inl (fun _ => 0))), (q1, .inl (T 0, 1440, .inl (fun _ => 0)))] H := hP
  have hD : va_D A [(h0, .inr (4, [.null, .ref q0, .ref q1, .int (-1), .int 0])), (q0, .inl (T 0, 1440, .inl (fun _ => 0))), (q1, .inl (T 0, 1440, .inl (fun _ => 0)))] := hD
  refine lv_aload_n hx hb di_X4_init_27 rfl (lv_at hl 0 rfl) ?_
  refine lv_aload_n hx hb di_X4_init_28 rfl (lv_at hl 1 rfl) ?_
  refine va_putF (D := D) (ci := 4) (v := .ref a1) (ty := (.object "RoundPoint$Coast")) (C := RX4) (T := TX4) (N := 5) hx hb hts inX4 tyX4 tyX4_ok nmX4 hown hK hP hD hS 0 rfl rfl 0 (by decide) (hts _ q1_153) (fun _ h9 => h9) rfl hin rfl (by decide +kernel) rfl rfl (Nat.le_of_ble_eq_true rfl) di_X4_init_29 (fun H locs hP hD hS => ?_)
  have hP : va_P D vwCl [(h0, .inr (4, [.ref a1, .ref q0, .ref q1, .int (-1), .int 0])), (q0, .inl (T 0, 1440, .inl (fun _ => 0))), (q1, .inl (T 0, 1440, .inl (fun _ => 0)))] H := hP
  have hD : va_D A [(h0, .inr (4, [.ref a1, .ref q0, .ref q1, .int (-1), .int 0])), (q0, .inl (T 0, 1440, .inl (fun _ => 0))), (q1, .inl (T 0, 1440, .inl (fun _ => 0)))] := hD
  exact W.vret hx hb hr (fun t ht hW => ⟨⟨fun j => ([q0, q1] : List Nat).getD j 0, rfl, trivial, by rw [ht]; exact hP, va_K.moved hW.alike hK, hD⟩, hS.F ht⟩) hS.2.2 di_X4_init_32
theorem di_X5_init_0 : decode cX5_init 0 = .ok (.aload_n 0, 1) := by decide +kernel
theorem di_X5_init_1 : decode cX5_init 1 = .ok (.invokespecial 3, 3) := by decide +kernel
theorem di_X5_init_4 : decode cX5_init 4 = .ok (.aload_n 0, 1) := by decide +kernel
theorem di_X5_init_5 : decode cX5_init 5 = .ok (.sipush 1440, 3) := by decide +kernel
theorem di_X5_init_8 : decode cX5_init 8 = .ok (.newarray .long, 2) := by decide +kernel
theorem di_X5_init_10 : decode cX5_init 10 = .ok (.putfield 9, 3) := by decide +kernel
theorem di_X5_init_13 : decode cX5_init 13 = .ok (.aload_n 0, 1) := by decide +kernel
theorem di_X5_init_14 : decode cX5_init 14 = .ok (.sipush 1440, 3) := by decide +kernel
theorem di_X5_init_17 : decode cX5_init 17 = .ok (.newarray .long, 2) := by decide +kernel
theorem di_X5_init_19 : decode cX5_init 19 = .ok (.putfield 15, 3) := by decide +kernel
theorem di_X5_init_22 : decode cX5_init 22 = .ok (.aload_n 0, 1) := by decide +kernel
theorem di_X5_init_23 : decode cX5_init 23 = .ok (.bipush 96, 2) := by decide +kernel
theorem di_X5_init_25 : decode cX5_init 25 = .ok (.newarray .int, 2) := by decide +kernel
theorem di_X5_init_27 : decode cX5_init 27 = .ok (.putfield 18, 3) := by decide +kernel
theorem di_X5_init_30 : decode cX5_init 30 = .ok (.aload_n 0, 1) := by decide +kernel
theorem di_X5_init_31 : decode cX5_init 31 = .ok (.bipush 24, 2) := by decide +kernel
theorem di_X5_init_33 : decode cX5_init 33 = .ok (.newarray .int, 2) := by decide +kernel
theorem di_X5_init_35 : decode cX5_init 35 = .ok (.putfield 22, 3) := by decide +kernel
theorem di_X5_init_38 : decode cX5_init 38 = .ok (.aload_n 0, 1) := by decide +kernel
theorem di_X5_init_39 : decode cX5_init 39 = .ok (.aload_n 1, 1) := by decide +kernel
theorem di_X5_init_40 : decode cX5_init 40 = .ok (.putfield 25, 3) := by decide +kernel
theorem di_X5_init_43 : decode cX5_init 43 = .ok (.aload_n 0, 1) := by decide +kernel
theorem di_X5_init_44 : decode cX5_init 44 = .ok (.aload_n 2, 1) := by decide +kernel
theorem di_X5_init_45 : decode cX5_init 45 = .ok (.putfield 29, 3) := by decide +kernel
theorem di_X5_init_48 : decode cX5_init 48 = .ok (.return_, 1) := by decide +kernel
def k_X5_init : zM := (yX5_init, cX5_init, 3, none)
set_option maxHeartbeats 16000000 in
set_option maxRecDepth 100000 in
theorem i_X5_init (l : Launch) (D : va_G) (T : Nat → ClassId) (h0 sz a1 a2 : Nat) : Met l yX5_init (zws k_X5_init) ({ frames := 1, cells := 4, slots := 3000, locals := 12 }) (va_Pc [.ref h0, .ref a1, .ref a2] (iPre D T [(h0, .inr (5, [.null, .null, .null, .null, .null, .null, .long 0]))] sz)) (va_Qv (fun _ : Nat → Nat => True) (fun u t => va_P D vwCl [(h0, .inr (5, [.ref a1, .ref a2, .ref (u 0), .ref (u 1), .ref (u 2), .ref (u 3), .long 0])), ((u 0), .inl (T 1, 1440, .inr (.inl (fun _ => 0)))), ((u 1), .inl (T 1, 1440, .inr (.inl (fun _ => 0)))), ((u 2), .inl (T 0, 96, .inl (fun _ => 0))), ((u 3), .inl (T 0, 24, .inl (fun _ => 0)))] t.heap ∧ va_K D vwCl (tysT T) t ∧ va_D (va_A [(h0, .inr (5, [.null, .null, .null, .null, .null, .null, .long 0]))] sz) [(h0, .inr (5, [.ref a1, .ref a2, .ref (u 0), .ref (u 1), .ref (u 2), .ref (u 3), .long 0])), ((u 0), .inl (T 1, 1440, .inr (.inl (fun _ => 0)))), ((u 1), .inl (T 1, 1440, .inr (.inl (fun _ => 0)))), ((u 2), .inl (T 0, 96, .inl (fun _ => 0))), ((u 3), .inl (T 0, 24, .inl (fun _ => 0)))]) (va_A [(h0, .inr (5, [.null, .null, .null, .null, .null, .null, .long 0]))] sz)) 4 3000 (va_A [(h0, .inr (5, [.null, .null, .null, .null, .null, .null, .long 0]))] sz) := by
  refine Met.ofW (cc := cX5_init) (maxL := 3) (ret := none) (by decide) rfl ?_
  intro p e s m args below meth c s₁ B hml hv
  obtain ⟨rfl, hsz, hP, hK, hD0⟩ := hv
  have hx := B.exec
  have hb := B.bytes
  have hr := B.returns
  have hts0 := atoms_spec (ws := zws k_X5_init) B.pre
  have hts : ∀ w ∈ BIG, w.before _ s = true := fun w hw => hts0 w (List.mem_cons_of_mem _ hw)
  have hown : s.vm.findClass RX5 = some m.cls := findClass_of_methodNamed B.named
  have hlocks := B.notSynchronized
  have hin : meth.name = "<init>" := (name_of_methodNamed B.named B.method).1
  clear hts0
  subst hsz
  have hD := hD0.self (sz := s.heap.size)
  generalize hAe : va_A [(h0, .inr (5, [.null, .null, .null, .null, .null, .null, .long 0]))] s.heap.size = A at hD ⊢
  have hA : ∀ q : Nat, s.heap.size ≤ q → A q := fun q h => by rw [← hAe]; exact Or.inr h
  have hS : va_S A s.heap s.heap [] := va_S.rf
  have hl := lv_entry ([.ref h0, .ref a1, .ref a2]) (n := 3) (Nat.le_of_ble_eq_true rfl)
  rw [lg_entry_eq]
  generalize (lg_sl ([.ref h0, .ref a1, .ref a2]) ++ List.replicate (3 - (lg_sl ([.ref h0, .ref a1, .ref a2])).length) Slot.unset).toArray = ls at hl ⊢
  have hl : lv_has ls 3 [(0, .ref h0), (1, .ref a1), (2, .ref a2)] := hl
  refine lv_aload_n hx hb di_X5_init_0 rfl (lv_at hl 0 rfl) ?_
  refine W.objInit hx hb hown (hts _ q1_175) (hts _ q1_20) (hts _ q1_21) rfl (by rw [hml]; exact hl.1) rfl di_X5_init_1 (Nat.le_of_ble_eq_true rfl) (Nat.le_of_ble_eq_true rfl) ?_
  refine W.eq (g2 := F0 m 4 ls []) rfl ?_
  refine lv_aload_n hx hb di_X5_init_4 rfl (lv_at hl 0 rfl) ?_
  refine lv_sipush (v := 1440) hx hb di_X5_init_5 (by decide) ?_
  refine zi_newa (atype := .long) (ty := .long) (t0 := 1) (N' := 1440) (a0 := (1440, .inr (.inl (fun _ => 0)))) hx hb (hts _ q1_198) rfl rfl (fun _ h => h) hK hP hD hS hA (fun _ => rfl) (by decide) (by decide) (by decide) (show 1 ≤ 4 by decide) (show 1440 ≤ 3000 by decide) di_X5_init_8 (fun q0 H hP hD hS => ?_)
  refine W.widen (k := 1) (n := 1440) (by omega) (by omega) ?_
  have hP : va_P D vwCl [(h0, .inr (5, [.null, .null, .null, .null, .null, .null, .long 0])), (q0, .inl (T 1, 1440, .inr (.inl (fun _ => 0))))] H := hP
  have hD : va_D A [(h0, .inr (5, [.null, .null, .null, .null, .null, .null, .long 0])), (q0, .inl (T 1, 1440, .inr (.inl (fun _ => 0))))] := hD
  refine va_putF (D := D) (ci := 5) (v := .ref q0) (ty := (.array .long)) (C := RX5) (T := TX5) (N := 7) hx hb hts inX5 tyX5 tyX5_ok nmX5 hown hK hP hD hS 0 rfl rfl 2 (by decide) (hts _ q1_178) (fun _ h9 => h9) rfl hin rfl (by decide +kernel) rfl rfl (Nat.le_of_ble_eq_true rfl) di_X5_init_10 (fun H locs hP hD hS => ?_)
  have hP : va_P D vwCl [(h0, .inr (5, [.null, .null, .ref q0, .null, .null, .null, .long 0])), (q0, .inl (T 1, 1440, .inr (.inl (fun _ => 0))))] H := hP
  have hD : va_D A [(h0, .inr (5, [.null, .null, .ref q0, .null, .null, .null, .long 0])), (q0, .inl (T 1, 1440, .inr (.inl (fun _ => 0))))] := hD
  refine lv_aload_n hx hb di_X5_init_13 rfl (lv_at hl 0 rfl) ?_
  refine lv_sipush (v := 1440) hx hb di_X5_init_14 (by decide) ?_
  refine zi_newa (atype := .long) (ty := .long) (t0 := 1) (N' := 1440) (a0 := (1440, .inr (.inl (fun _ => 0)))) hx hb (hts _ q1_198) rfl rfl (fun _ h => h) hK hP hD hS hA (fun _ => rfl) (by decide) (by decide) (by decide) (show 2 ≤ 4 by decide) (show 2880 ≤ 3000 by decide) di_X5_init_17 (fun q1 H hP hD hS => ?_)
  refine W.widen (k := 2) (n := 2880) (by omega) (by omega) ?_
  have hP : va_P D vwCl [(h0, .inr (5, [.null, .null, .ref q0, .null, .null, .null, .long 0])), (q0, .inl (T 1, 1440, .inr (.inl (fun _ => 0)))), (q1, .inl (T 1, 1440, .inr (.inl (fun _ => 0))))] H := hP
  have hD : va_D A [(h0, .inr (5, [.null, .null, .ref q0, .null, .null, .null, .long 0])), (q0, .inl (T 1, 1440, .inr (.inl (fun _ => 0)))), (q1, .inl (T 1, 1440, .inr (.inl (fun _ => 0))))] := hD
  refine va_putF (D := D) (ci := 5) (v := .ref q1) (ty := (.array .long)) (C := RX5) (T := TX5) (N := 7) hx hb hts inX5 tyX5 tyX5_ok nmX5 hown hK hP hD hS 0 rfl rfl 3 (by decide) (hts _ q1_179) (fun _ h9 => h9) rfl hin rfl (by decide +kernel) rfl rfl (Nat.le_of_ble_eq_true rfl) di_X5_init_19 (fun H locs hP hD hS => ?_)
  have hP : va_P D vwCl [(h0, .inr (5, [.null, .null, .ref q0, .ref q1, .null, .null, .long 0])), (q0, .inl (T 1, 1440, .inr (.inl (fun _ => 0)))), (q1, .inl (T 1, 1440, .inr (.inl (fun _ => 0))))] H := hP
  have hD : va_D A [(h0, .inr (5, [.null, .null, .ref q0, .ref q1, .null, .null, .long 0])), (q0, .inl (T 1, 1440, .inr (.inl (fun _ => 0)))), (q1, .inl (T 1, 1440, .inr (.inl (fun _ => 0))))] := hD
  refine lv_aload_n hx hb di_X5_init_22 rfl (lv_at hl 0 rfl) ?_
  refine lv_bipush (v := 96) hx hb di_X5_init_23 (by decide) ?_
  refine zi_newa (atype := .int) (ty := .int) (t0 := 0) (N' := 96) (a0 := (96, .inl (fun _ => 0))) hx hb (hts _ q1_51) rfl rfl (fun _ h => h) hK hP hD hS hA (fun _ => rfl) (by decide) (by decide) (by decide) (show 3 ≤ 4 by decide) (show 2976 ≤ 3000 by decide) di_X5_init_25 (fun q2 H hP hD hS => ?_)
  refine W.widen (k := 3) (n := 2976) (by omega) (by omega) ?_
  have hP : va_P D vwCl [(h0, .inr (5, [.null, .null, .ref q0, .ref q1, .null, .null, .long 0])), (q0, .inl (T 1, 1440, .inr (.inl (fun _ => 0)))), (q1, .inl (T 1, 1440, .inr (.inl (fun _ => 0)))), (q2, .inl (T 0, 96, .inl (fun _ => 0)))] H := hP
  have hD : va_D A [(h0, .inr (5, [.null, .null, .ref q0, .ref q1, .null, .null, .long 0])), (q0, .inl (T 1, 1440, .inr (.inl (fun _ => 0)))), (q1, .inl (T 1, 1440, .inr (.inl (fun _ => 0)))), (q2, .inl (T 0, 96, .inl (fun _ => 0)))] := hD
  refine va_putF (D := D) (ci := 5) (v := .ref q2) (ty := (.array .int)) (C := RX5) (T := TX5) (N := 7) hx hb hts inX5 tyX5 tyX5_ok nmX5 hown hK hP hD hS 0 rfl rfl 4 (by decide) (hts _ q1_180) (fun _ h9 => h9) rfl hin rfl (by decide +kernel) rfl rfl (Nat.le_of_ble_eq_true rfl) di_X5_init_27 (fun H locs hP hD hS => ?_)
  have hP : va_P D vwCl [(h0, .inr (5, [.null, .null, .ref q0, .ref q1, .ref q2, .null, .long 0])), (q0, .inl (T 1, 1440, .inr (.inl (fun _ => 0)))), (q1, .inl (T 1, 1440, .inr (.inl (fun _ => 0)))), (q2, .inl (T 0, 96, .inl (fun _ => 0)))] H := hP
  have hD : va_D A [(h0, .inr (5, [.null, .null, .ref q0, .ref q1, .ref q2, .null, .long 0])), (q0, .inl (T 1, 1440, .inr (.inl (fun _ => 0)))), (q1, .inl (T 1, 1440, .inr (.inl (fun _ => 0)))), (q2, .inl (T 0, 96, .inl (fun _ => 0)))] := hD
  refine lv_aload_n hx hb di_X5_init_30 rfl (lv_at hl 0 rfl) ?_
  refine lv_bipush (v := 24) hx hb di_X5_init_31 (by decide) ?_
  refine zi_newa (atype := .int) (ty := .int) (t0 := 0) (N' := 24) (a0 := (24, .inl (fun _ => 0))) hx hb (hts _ q1_51) rfl rfl (fun _ h => h) hK hP hD hS hA (fun _ => rfl) (by decide) (by decide) (by decide) (show 4 ≤ 4 by decide) (show 3000 ≤ 3000 by decide) di_X5_init_33 (fun q3 H hP hD hS => ?_)
  refine W.widen (k := 4) (n := 3000) (by omega) (by omega) ?_
  have hP : va_P D vwCl [(h0, .inr (5, [.null, .null, .ref q0, .ref q1, .ref q2, .null, .long 0])), (q0, .inl (T 1, 1440, .inr (.inl (fun _ => 0)))), (q1, .inl (T 1, 1440, .inr (.inl (fun _ => 0)))), (q2, .inl (T 0, 96, .inl (fun _ => 0))), (q3, .inl (T 0, 24, .inl (fun _ => 0)))] H := hP
  have hD : va_D A [(h0, .inr (5, [.null, .null, .ref q0, .ref q1, .ref q2, .null, .long 0])), (q0, .inl (T 1, 1440, .inr (.inl (fun _ => 0)))), (q1, .inl (T 1, 1440, .inr (.inl (fun _ => 0)))), (q2, .inl (T 0, 96, .inl (fun _ => 0))), (q3, .inl (T 0, 24, .inl (fun _ => 0)))] := hD
  refine va_putF (D := D) (ci := 5) (v := .ref q3) (ty := (.array .int)) (C := RX5) (T := TX5) (N := 7) hx hb hts inX5 tyX5 tyX5_ok nmX5 hown hK hP hD hS 0 rfl rfl 5 (by decide) (hts _ q1_181) (fun _ h9 => h9) rfl hin rfl (by decide +kernel) rfl rfl (Nat.le_of_ble_eq_true rfl) di_X5_init_35 (fun H locs hP hD hS => ?_)
  have hP : va_P D vwCl [(h0, .inr (5, [.null, .null, .ref q0, .ref q1, .ref q2, .ref q3, .long 0])), (q0, .inl (T 1, 1440, .inr (.inl (fun _ => 0)))), (q1, .inl (T 1, 1440, .inr (.inl (fun _ => 0)))), (q2, .inl (T 0, 96, .inl (fun _ => 0))), (q3, .inl (T 0, 24, .inl (fun _ => 0)))] H := hP
  have hD : va_D A [(h0, .inr (5, [.null, .null, .ref q0, .ref q1, .ref q2, .ref q3, .long 0])), (q0, .inl (T 1, 1440, .inr (.inl (fun _ => 0)))), (q1, .inl (T 1, 1440, .inr (.inl (fun _ => 0)))), (q2, .inl (T 0, 96, .inl (fun _ => 0))), (q3, .inl (T 0, 24, .inl (fun _ => 0)))] := hD
  refine lv_aload_n hx hb di_X5_init_38 rfl (lv_at hl 0 rfl) ?_
  refine lv_aload_n hx hb di_X5_init_39 rfl (lv_at hl 1 rfl) ?_
  refine va_putF (D := D) (ci := 5) (v := .ref a1) (ty := (.object "RoundPoint$Coast")) (C := RX5) (T := TX5) (N := 7) hx hb hts inX5 tyX5 tyX5_ok nmX5 hown hK hP hD hS 0 rfl rfl 0 (by decide) (hts _ q1_176) (fun _ h9 => h9) rfl hin rfl (by decide +kernel) rfl rfl (Nat.le_of_ble_eq_true rfl) di_X5_init_40 (fun H locs hP hD hS => ?_)
  have hP : va_P D vwCl [(h0, .inr (5, [.ref a1, .null, .ref q0, .ref q1, .ref q2, .ref q3, .long 0])), (q0, .inl (T 1, 1440, .inr (.inl (fun _ => 0)))), (q1, .inl (T 1, 1440, .inr (.inl (fun _ => 0)))), (q2, .inl (T 0, 96, .inl (fun _ => 0))), (q3, .inl (T 0, 24, .inl (fun _ => 0)))] H := hP
  have hD : va_D A [(h0, .inr (5, [.ref a1, .null, .ref q0, .ref q1, .ref q2, .ref q3, .long 0])), (q0, .inl (T 1, 1440, .inr (.inl (fun _ => 0)))), (q1, .inl (T 1, 1440, .inr (.inl (fun _ => 0)))), (q2, .inl (T 0, 96, .inl (fun _ => 0))), (q3, .inl (T 0, 24, .inl (fun _ => 0)))] := hD
  refine lv_aload_n hx hb di_X5_init_43 rfl (lv_at hl 0 rfl) ?_
  refine lv_aload_n hx hb di_X5_init_44 rfl (lv_at hl 2 rfl) ?_
  refine va_putF (D := D) (ci := 5) (v := .ref a2) (ty := (.object "RoundPoint$Sea")) (C := RX5) (T := TX5) (N := 7) hx hb hts inX5 tyX5 tyX5_ok nmX5 hown hK hP hD hS 0 rfl rfl 1 (by decide) (hts _ q1_177) (fun _ h9 => h9) rfl hin rfl (by decide +kernel) rfl rfl (Nat.le_of_ble_eq_true rfl) di_X5_init_45 (fun H locs hP hD hS => ?_)
  have hP : va_P D vwCl [(h0, .inr (5, [.ref a1, .ref a2, .ref q0, .ref q1, .ref q2, .ref q3, .long 0])), (q0, .inl (T 1, 1440, .inr (.inl (fun _ => 0)))), (q1, .inl (T 1, 1440, .inr (.inl (fun _ => 0)))), (q2, .inl (T 0, 96, .inl (fun _ => 0))), (q3, .inl (T 0, 24, .inl (fun _ => 0)))] H := hP
  have hD : va_D A [(h0, .inr (5, [.ref a1, .ref a2, .ref q0, .ref q1, .ref q2, .ref q3, .long 0])), (q0, .inl (T 1, 1440, .inr (.inl (fun _ => 0)))), (q1, .inl (T 1, 1440, .inr (.inl (fun _ => 0)))), (q2, .inl (T 0, 96, .inl (fun _ => 0))), (q3, .inl (T 0, 24, .inl (fun _ => 0)))] := hD
  exact W.vret hx hb hr (fun t ht hW => ⟨⟨fun j => ([q0, q1, q2, q3] : List Nat).getD j 0, rfl, trivial, by rw [ht]; exact hP, va_K.moved hW.alike hK, hD⟩, hS.F ht⟩) hS.2.2 di_X5_init_48
theorem di_X6_init_0 : decode cX6_init 0 = .ok (.aload_n 0, 1) := by decide +kernel
theorem di_X6_init_1 : decode cX6_init 1 = .ok (.invokespecial 3, 3) := by decide +kernel
theorem di_X6_init_4 : decode cX6_init 4 = .ok (.aload_n 0, 1) := by decide +kernel
theorem di_X6_init_5 : decode cX6_init 5 = .ok (.iconst (-1), 1) := by decide +kernel
theorem di_X6_init_6 : decode cX6_init 6 = .ok (.putfield 11, 3) := by decide +kernel
theorem di_X6_init_9 : decode cX6_init 9 = .ok (.aload_n 0, 1) := by decide +kernel
theorem di_X6_init_10 : decode cX6_init 10 = .ok (.bipush 60, 2) := by decide +kernel
theorem di_X6_init_12 : decode cX6_init 12 = .ok (.newarray .long, 2) := by decide +kernel
theorem di_X6_init_14 : decode cX6_init 14 = .ok (.putfield 15, 3) := by decide +kernel
theorem di_X6_init_17 : decode cX6_init 17 = .ok (.return_, 1) := by decide +kernel
def k_X6_init : zM := (yX6_init, cX6_init, 1, none)
set_option maxHeartbeats 16000000 in
set_option maxRecDepth 100000 in
theorem i_X6_init (l : Launch) (D : va_G) (T : Nat → ClassId) (h0 sz : Nat) : Met l yX6_init (zws k_X6_init) ({ frames := 1, cells := 1, slots := 60, locals := 12 }) (va_Pc [.ref h0] (iPre D T [(h0, .inr (6, [.int 0, .int 0, .null, .int 0]))] sz)) (va_Qv (fun _ : Nat → Nat => True) (fun u t => va_P D vwCl [(h0, .inr (6, [.int (-1), .int 0, .ref (u 0), .int 0])), ((u 0), .inl (T 1, 60, .inr (.inl (fun _ => 0))))] t.heap ∧ va_K D vwCl (tysT T) t ∧ va_D (va_A [(h0, .inr (6, [.int 0, .int 0, .null, .int 0]))] sz) [(h0, .inr (6, [.int (-1), .int 0, .ref (u 0), .int 0])), ((u 0), .inl (T 1, 60, .inr (.inl (fun _ => 0))))]) (va_A [(h0, .inr (6, [.int 0, .int 0, .null, .int 0]))] sz)) 1 60 (va_A [(h0, .inr (6, [.int 0, .int 0, .null, .int 0]))] sz) := by
  refine Met.ofW (cc := cX6_init) (maxL := 1) (ret := none) (by decide) rfl ?_
  intro p e s m args below meth c s₁ B hml hv
  obtain ⟨rfl, hsz, hP, hK, hD0⟩ := hv
  have hx := B.exec
  have hb := B.bytes
  have hr := B.returns
  have hts0 := atoms_spec (ws := zws k_X6_init) B.pre
  have hts : ∀ w ∈ BIG, w.before _ s = true := fun w hw => hts0 w (List.mem_cons_of_mem _ hw)
  have hown : s.vm.findClass RX6 = some m.cls := findClass_of_methodNamed B.named
  have hlocks := B.notSynchronized
  have hin : meth.name = "<init>" := (name_of_methodNamed B.named B.method).1
  clear hts0
  subst hsz
  have hD := hD0.self (sz := s.heap.size)
  generalize hAe : va_A [(h0, .inr (6, [.int 0, .int 0, .null, .int 0]))] s.heap.size = A at hD ⊢
  have hA : ∀ q : Nat, s.heap.size ≤ q → A q := fun q h => by rw [← hAe]; exact Or.inr h
  have hS : va_S A s.heap s.heap [] := va_S.rf
  have hl := lv_entry ([.ref h0]) (n := 1) (Nat.le_of_ble_eq_true rfl)
  rw [lg_entry_eq]
  generalize (lg_sl ([.ref h0]) ++ List.replicate (1 - (lg_sl ([.ref h0])).length) Slot.unset).toArray = ls at hl ⊢
  have hl : lv_has ls 1 [(0, .ref h0)] := hl
  refine lv_aload_n hx hb di_X6_init_0 rfl (lv_at hl 0 rfl) ?_
  refine W.objInit hx hb hown (hts _ q2_52) (hts _ q1_20) (hts _ q1_21) rfl (by rw [hml]; exact hl.1) rfl di_X6_init_1 (Nat.le_of_ble_eq_true rfl) (Nat.le_of_ble_eq_true rfl) ?_
  refine W.eq (g2 := F0 m 4 ls []) rfl ?_
  refine lv_aload_n hx hb di_X6_init_4 rfl (lv_at hl 0 rfl) ?_
  refine lv_iconst (v := (-1)) hx hb di_X6_init_5 (by decide) ?_
  refine va_put (D := D) (ci := 6) (v := .int (-1)) (ty := .int) (C := RX6) (T := TX6) (N := 4) hx hb hts inX6 tyX6 tyX6_ok nmX6 hown hK hP hD hS 0 rfl rfl 0 (by decide) (hts _ q2_53) (fun _ h9 => h9) rfl (by decide +kernel) rfl rfl (Nat.le_of_ble_eq_true rfl) di_X6_init_6 (fun H locs hP hD hS => ?_)
  have hP : va_P D vwCl [(h0, .inr (6, [.int (-1), .int 0, .null, .int 0]))] H := hP
  have hD : va_D A [(h0, .inr (6, [.int (-1), .int 0, .null, .int 0]))] := hD
  refine lv_aload_n hx hb di_X6_init_9 rfl (lv_at hl 0 rfl) ?_
  refine lv_bipush (v := 60) hx hb di_X6_init_10 (by decide) ?_
  refine zi_newa (atype := .long) (ty := .long) (t0 := 1) (N' := 60) (a0 := (60, .inr (.inl (fun _ => 0)))) hx hb (hts _ q1_198) rfl rfl (fun _ h => h) hK hP hD hS hA (fun _ => rfl) (by decide) (by decide) (by decide) (show 1 ≤ 1 by decide) (show 60 ≤ 60 by decide) di_X6_init_12 (fun q0 H hP hD hS => ?_)
  refine W.widen (k := 1) (n := 60) (by omega) (by omega) ?_
  have hP : va_P D vwCl [(h0, .inr (6, [.int (-1), .int 0, .null, .int 0])), (q0, .inl (T 1, 60, .inr (.inl (fun _ => 0))))] H := hP
  have hD : va_D A [(h0, .inr (6, [.int (-1), .int 0, .null, .int 0])), (q0, .inl (T 1, 60, .inr (.inl (fun _ => 0))))] := hD
  refine va_putF (D := D) (ci := 6) (v := .ref q0) (ty := (.array .long)) (C := RX6) (T := TX6) (N := 4) hx hb hts inX6 tyX6 tyX6_ok nmX6 hown hK hP hD hS 0 rfl rfl 2 (by decide) (hts _ q2_57) (fun _ h9 => h9) rfl hin rfl (by decide +kernel) rfl rfl (Nat.le_of_ble_eq_true rfl) di_X6_init_14 (fun H locs hP hD hS => ?_)
  have hP : va_P D vwCl [(h0, .inr (6, [.int (-1), .int 0, .ref q0, .int 0])), (q0, .inl (T 1, 60, .inr (.inl (fun _ => 0))))] H := hP
  have hD : va_D A [(h0, .inr (6, [.int (-1), .int 0, .ref q0, .int 0])), (q0, .inl (T 1, 60, .inr (.inl (fun _ => 0))))] := hD
  exact W.vret hx hb hr (fun t ht hW => ⟨⟨fun j => ([q0] : List Nat).getD j 0, rfl, trivial, by rw [ht]; exact hP, va_K.moved hW.alike hK, hD⟩, hS.F ht⟩) hS.2.2 di_X6_init_17
theorem di_X7_init_0 : decode cX7_init 0 = .ok (.aload_n 0, 1) := by decide +kernel
theorem di_X7_init_1 : decode cX7_init 1 = .ok (.invokespecial 3, 3) := by decide +kernel
theorem di_X7_init_4 : decode cX7_init 4 = .ok (.aload_n 0, 1) := by decide +kernel
theorem di_X7_init_5 : decode cX7_init 5 = .ok (.bipush 120, 2) := by decide +kernel
theorem di_X7_init_7 : decode cX7_init 7 = .ok (.newarray .int, 2) := by decide +kernel
theorem di_X7_init_9 : decode cX7_init 9 = .ok (.putfield 9, 3) := by decide +kernel
theorem di_X7_init_12 : decode cX7_init 12 = .ok (.aload_n 0, 1) := by decide +kernel
theorem di_X7_init_13 : decode cX7_init 13 = .ok (.bipush 12, 2) := by decide +kernel
theorem di_X7_init_15 : decode cX7_init 15 = .ok (.newarray .int, 2) := by decide +kernel
theorem di_X7_init_17 : decode cX7_init 17 = .ok (.putfield 15, 3) := by decide +kernel
theorem di_X7_init_20 : decode cX7_init 20 = .ok (.aload_n 0, 1) := by decide +kernel
theorem di_X7_init_21 : decode cX7_init 21 = .ok (.bipush 12, 2) := by decide +kernel
theorem di_X7_init_23 : decode cX7_init 23 = .ok (.newarray .int, 2) := by decide +kernel
theorem di_X7_init_25 : decode cX7_init 25 = .ok (.putfield 18, 3) := by decide +kernel
theorem di_X7_init_28 : decode cX7_init 28 = .ok (.return_, 1) := by decide +kernel
def k_X7_init : zM := (yX7_init, cX7_init, 1, none)
set_option maxHeartbeats 16000000 in
set_option maxRecDepth 100000 in
theorem i_X7_init (l : Launch) (D : va_G) (T : Nat → ClassId) (h0 sz : Nat) : Met l yX7_init (zws k_X7_init) ({ frames := 1, cells := 3, slots := 144, locals := 12 }) (va_Pc [.ref h0] (iPre D T [(h0, .inr (7, [.null, .int 0, .null, .null, .int 0, .int 0]))] sz)) (va_Qv (fun _ : Nat → Nat => True) (fun u t => va_P D vwCl [(h0, .inr (7, [.ref (u 0), .int 0, .ref (u 1), .ref (u 2), .int 0, .int 0])), ((u 0), .inl (T 0, 120, .inl (fun _ => 0))), ((u 1), .inl (T 0, 12, .inl (fun _ => 0))), ((u 2), .inl (T 0, 12, .inl (fun _ => 0)))] t.heap ∧ va_K D vwCl (tysT T) t ∧ va_D (va_A [(h0, .inr (7, [.null, .int 0, .null, .null, .int 0, .int 0]))] sz) [(h0, .inr (7, [.ref (u 0), .int 0, .ref (u 1), .ref (u 2), .int 0, .int 0])), ((u 0), .inl (T 0, 120, .inl (fun _ => 0))), ((u 1), .inl (T 0, 12, .inl (fun _ => 0))), ((u 2), .inl (T 0, 12, .inl (fun _ => 0)))]) (va_A [(h0, .inr (7, [.null, .int 0, .null, .null, .int 0, .int 0]))] sz)) 3 144 (va_A [(h0, .inr (7, [.null, .int 0, .null, .null, .int 0, .int 0]))] sz) := by
  refine Met.ofW (cc := cX7_init) (maxL := 1) (ret := none) (by decide) rfl ?_
  intro p e s m args below meth c s₁ B hml hv
  obtain ⟨rfl, hsz, hP, hK, hD0⟩ := hv
  have hx := B.exec
  have hb := B.bytes
  have hr := B.returns
  have hts0 := atoms_spec (ws := zws k_X7_init) B.pre
  have hts : ∀ w ∈ BIG, w.before _ s = true := fun w hw => hts0 w (List.mem_cons_of_mem _ hw)
  have hown : s.vm.findClass RX7 = some m.cls := findClass_of_methodNamed B.named
  have hlocks := B.notSynchronized
  have hin : meth.name = "<init>" := (name_of_methodNamed B.named B.method).1
  clear hts0
  subst hsz
  have hD := hD0.self (sz := s.heap.size)
  generalize hAe : va_A [(h0, .inr (7, [.null, .int 0, .null, .null, .int 0, .int 0]))] s.heap.size = A at hD ⊢
  have hA : ∀ q : Nat, s.heap.size ≤ q → A q := fun q h => by rw [← hAe]; exact Or.inr h
  have hS : va_S A s.heap s.heap [] := va_S.rf
  have hl := lv_entry ([.ref h0]) (n := 1) (Nat.le_of_ble_eq_true rfl)
  rw [lg_entry_eq]
  generalize (lg_sl ([.ref h0]) ++ List.replicate (1 - (lg_sl ([.ref h0])).length) Slot.unset).toArray = ls at hl ⊢
  have hl : lv_has ls 1 [(0, .ref h0)] := hl
  refine lv_aload_n hx hb di_X7_init_0 rfl (lv_at hl 0 rfl) ?_
  refine W.objInit hx hb hown (hts _ q1_27) (hts _ q1_20) (hts _ q1_21) rfl (by rw [hml]; exact hl.1) rfl di_X7_init_1 (Nat.le_of_ble_eq_true rfl) (Nat.le_of_ble_eq_true rfl) ?_
  refine W.eq (g2 := F0 m 4 ls []) rfl ?_
  refine lv_aload_n hx hb di_X7_init_4 rfl (lv_at hl 0 rfl) ?_
  refine lv_bipush (v := 120) hx hb di_X7_init_5 (by decide) ?_
  refine zi_newa (atype := .int) (ty := .int) (t0 := 0) (N' := 120) (a0 := (120, .inl (fun _ => 0))) hx hb (hts _ q1_51) rfl rfl (fun _ h => h) hK hP hD hS hA (fun _ => rfl) (by decide) (by decide) (by decide) (show 1 ≤ 3 by decide) (show 120 ≤ 144 by decide) di_X7_init_7 (fun q0 H hP hD hS => ?_)
  refine W.widen (k := 1) (n := 120) (by omega) (by omega) ?_
  have hP : va_P D vwCl [(h0, .inr (7, [.null, .int 0, .null, .null, .int 0, .int 0])), (q0, .inl (T 0, 120, .inl (fun _ => 0)))] H := hP
  have hD : va_D A [(h0, .inr (7, [.null, .int 0, .null, .null, .int 0, .int 0])), (q0, .inl (T 0, 120, .inl (fun _ => 0)))] := hD
  refine va_putF (D := D) (ci := 7) (v := .ref q0) (ty := (.array .int)) (C := RX7) (T := TX7) (N := 6) hx hb hts inX7 tyX7 tyX7_ok nmX7 hown hK hP hD hS 0 rfl rfl 0 (by decide) (hts _ q1_28) (fun _ h9 => h9) rfl hin rfl (by decide +kernel) rfl rfl (Nat.le_of_ble_eq_true rfl) di_X7_init_9 (fun H locs hP hD hS => ?_)
  have hP : va_P D vwCl [(h0, .inr (7, [.ref q0, .int 0, .null, .null, .int 0, .int 0])), (q0, .inl (T 0, 120, .inl (fun _ => 0)))] H := hP
  have hD : va_D A [(h0, .inr (7, [.ref q0, .int 0, .null, .null, .int 0, .int 0])), (q0, .inl (T 0, 120, .inl (fun _ => 0)))] := hD
  refine lv_aload_n hx hb di_X7_init_12 rfl (lv_at hl 0 rfl) ?_
  refine lv_bipush (v := 12) hx hb di_X7_init_13 (by decide) ?_
  refine zi_newa (atype := .int) (ty := .int) (t0 := 0) (N' := 12) (a0 := (12, .inl (fun _ => 0))) hx hb (hts _ q1_51) rfl rfl (fun _ h => h) hK hP hD hS hA (fun _ => rfl) (by decide) (by decide) (by decide) (show 2 ≤ 3 by decide) (show 132 ≤ 144 by decide) di_X7_init_15 (fun q1 H hP hD hS => ?_)
  refine W.widen (k := 2) (n := 132) (by omega) (by omega) ?_
  have hP : va_P D vwCl [(h0, .inr (7, [.ref q0, .int 0, .null, .null, .int 0, .int 0])), (q0, .inl (T 0, 120, .inl (fun _ => 0))), (q1, .inl (T 0, 12, .inl (fun _ => 0)))] H := hP
  have hD : va_D A [(h0, .inr (7, [.ref q0, .int 0, .null, .null, .int 0, .int 0])), (q0, .inl (T 0, 120, .inl (fun _ => 0))), (q1, .inl (T 0, 12, .inl (fun _ => 0)))] := hD
  refine va_putF (D := D) (ci := 7) (v := .ref q1) (ty := (.array .int)) (C := RX7) (T := TX7) (N := 6) hx hb hts inX7 tyX7 tyX7_ok nmX7 hown hK hP hD hS 0 rfl rfl 2 (by decide) (hts _ q1_31) (fun _ h9 => h9) rfl hin rfl (by decide +kernel) rfl rfl (Nat.le_of_ble_eq_true rfl) di_X7_init_17 (fun H locs hP hD hS => ?_)
  have hP : va_P D vwCl [(h0, .inr (7, [.ref q0, .int 0, .ref q1, .null, .int 0, .int 0])), (q0, .inl (T 0, 120, .inl (fun _ => 0))), (q1, .inl (T 0, 12, .inl (fun _ => 0)))] H := hP
  have hD : va_D A [(h0, .inr (7, [.ref q0, .int 0, .ref q1, .null, .int 0, .int 0])), (q0, .inl (T 0, 120, .inl (fun _ => 0))), (q1, .inl (T 0, 12, .inl (fun _ => 0)))] := hD
  refine lv_aload_n hx hb di_X7_init_20 rfl (lv_at hl 0 rfl) ?_
  refine lv_bipush (v := 12) hx hb di_X7_init_21 (by decide) ?_
  refine zi_newa (atype := .int) (ty := .int) (t0 := 0) (N' := 12) (a0 := (12, .inl (fun _ => 0))) hx hb (hts _ q1_51) rfl rfl (fun _ h => h) hK hP hD hS hA (fun _ => rfl) (by decide) (by decide) (by decide) (show 3 ≤ 3 by decide) (show 144 ≤ 144 by decide) di_X7_init_23 (fun q2 H hP hD hS => ?_)
  refine W.widen (k := 3) (n := 144) (by omega) (by omega) ?_
  have hP : va_P D vwCl [(h0, .inr (7, [.ref q0, .int 0, .ref q1, .null, .int 0, .int 0])), (q0, .inl (T 0, 120, .inl (fun _ => 0))), (q1, .inl (T 0, 12, .inl (fun _ => 0))), (q2, .inl (T 0, 12, .inl (fun _ => 0)))] H := hP
  have hD : va_D A [(h0, .inr (7, [.ref q0, .int 0, .ref q1, .null, .int 0, .int 0])), (q0, .inl (T 0, 120, .inl (fun _ => 0))), (q1, .inl (T 0, 12, .inl (fun _ => 0))), (q2, .inl (T 0, 12, .inl (fun _ => 0)))] := hD
  refine va_putF (D := D) (ci := 7) (v := .ref q2) (ty := (.array .int)) (C := RX7) (T := TX7) (N := 6) hx hb hts inX7 tyX7 tyX7_ok nmX7 hown hK hP hD hS 0 rfl rfl 3 (by decide) (hts _ q1_33) (fun _ h9 => h9) rfl hin rfl (by decide +kernel) rfl rfl (Nat.le_of_ble_eq_true rfl) di_X7_init_25 (fun H locs hP hD hS => ?_)
  have hP : va_P D vwCl [(h0, .inr (7, [.ref q0, .int 0, .ref q1, .ref q2, .int 0, .int 0])), (q0, .inl (T 0, 120, .inl (fun _ => 0))), (q1, .inl (T 0, 12, .inl (fun _ => 0))), (q2, .inl (T 0, 12, .inl (fun _ => 0)))] H := hP
  have hD : va_D A [(h0, .inr (7, [.ref q0, .int 0, .ref q1, .ref q2, .int 0, .int 0])), (q0, .inl (T 0, 120, .inl (fun _ => 0))), (q1, .inl (T 0, 12, .inl (fun _ => 0))), (q2, .inl (T 0, 12, .inl (fun _ => 0)))] := hD
  exact W.vret hx hb hr (fun t ht hW => ⟨⟨fun j => ([q0, q1, q2] : List Nat).getD j 0, rfl, trivial, by rw [ht]; exact hP, va_K.moved hW.alike hK, hD⟩, hS.F ht⟩) hS.2.2 di_X7_init_28
