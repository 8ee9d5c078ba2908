section OPSC
variable {k : zM} {pc n : Nat}
def popA : Nat → List zV → List zV → Option (List zV × List zV)
  | 0, st, acc => some (acc, st)
  | m + 1, v :: st, acc => popA m st (v :: acc)
  | _ + 1, [], _ => none
theorem popA_spec : ∀ (m : Nat) (st acc As rest : List zV), popA m st acc = some (As, rest) → ∃ l, As = l ++ acc ∧ st = l.reverse ++ rest ∧ l.length = m
  | 0, st, acc, As, rest, h => by cases h; exact ⟨[], rfl, rfl, rfl⟩
  | m + 1, v :: st, acc, As, rest, h => by
    obtain ⟨l, h1, h2, h3⟩ := popA_spec m st (v :: acc) As rest h
    refine ⟨l ++ [v], by simp [h1], by simp [h2], by simp [h3]⟩
  | m + 1, [], acc, As, rest, h => by cases h
def catS : List zV → Nat
  | [] => 0
  | .inr (.inl _) :: r => catS r + 2
  | _ :: r => catS r + 1
theorem catS_eq (A : Nat → Nat) : ∀ st : List zV, ((st.map (cvV A)).map fun v => v.category).sum = catS st
  | [] => rfl
  | .inl x :: r => by
    show 1 + ((r.map (cvV A)).map fun v => v.category).sum = catS r + 1
    rw [catS_eq A r]; omega
  | .inr (.inl y) :: r => by
    show 2 + ((r.map (cvV A)).map fun v => v.category).sum = catS r + 2
    rw [catS_eq A r]; omega
  | .inr (.inr none) :: r => by
    show 1 + ((r.map (cvV A)).map fun v => v.category).sum = catS r + 1
    rw [catS_eq A r]; omega
  | .inr (.inr (some a)) :: r => by
    show 1 + ((r.map (cvV A)).map fun v => v.category).sum = catS r + 1
    rw [catS_eq A r]; omega
/-- what follows a call: the callee's contract, and going on from all that it allows -/
def zcall (d : Nat) (k' : zM) (As : List zV) (h : zH) (kk : Option zV → zH → Prop) : Prop := ∃ (d' : Nat) (P : zQ), d' + 1 ≤ d ∧ zC d' k' As h P ∧ ∀ o h', P o h' → kk o h'
def o_callv (m ci : Nat) (k' : zM) (n : Nat) : zO := fun d _ lv st h K => match popA (m + 1) st [] with
  | some (.inr (.inr (some b)) :: As, rest) => match Nat.ble (catS rest) 8, SHP b with
    | true, (0, c, _) => match Nat.beq c ci with
      | true => zcall d k' (sR b :: As) h (fun o h' => K n lv (o.toList ++ rest) h')
      | false => False
    | _, _ => False
  | _ => False
def o_calls (m : Nat) (k' : zM) (n : Nat) : zO := fun d _ lv st h K => match popA m st [] with
  | some (As, rest) => match Nat.ble (catS rest) 8 with
    | true => zcall d k' As h (fun o h' => K n lv (o.toList ++ rest) h')
    | _ => False
  | _ => False
theorem frA_F {X : zX} {h : zH} (hD : va_D (xF X) (wld (xT X) (xA X) h)) : ∀ q, frA (xA X) q → xF X q := by
  rintro q ⟨c, hc, rfl⟩
  exact wld_F hD hc
theorem zST_kept {A : Nat → Nat} {F G : Nat → Prop} {u U : State} {H1 : Heap} (hW : u.WarmedH U.vm) (hS : ∀ q : Nat, q < u.heap.size → ¬ F q → H1[q]? = u.heap[q]?) (hFG : ∀ q, G q → F q) (h : zST A F u u.heap) : zST A G U H1 :=
  ⟨⟨((h.1.1.kept hS).moved hW.alike).narrow hFG, ((h.1.2.kept hS).moved hW.alike).narrow hFG⟩, ⟨((h.2.1.1.kept hS).moved hW.alike).narrow hFG, ((h.2.1.2.kept hS).moved hW.alike).narrow hFG⟩, va_Nw.warmM hW h.2.2⟩
theorem zpre_call {X : zX} {d : Nat} {h : zH} {H : Heap} {locs : List Loc} {k : zM} (Z : zCx X d k) (hP : va_P (xD X) vwCl (wld (xT X) (xA X) h) H) (hD : va_D (xF X) (wld (xT X) (xA X) h)) (hS : va_S (xF X) (xs X).heap H locs) :
    ∀ U : State, U.heap = H → (xs X).WarmedH U.vm → zPre (xD X) (xT X) (xA X) h U := fun U hU hW =>
  ⟨by rw [hU]; exact hP, va_K.moved hW.alike Z.2.2.2.2.2.1, wld_D hD (fun c hc => ⟨c, hc, rfl⟩), by rw [hU]; exact zST_kept hW (fun q h1 h2 => hS.2.1 q h1 h2) (frA_F hD) Z.2.2.2.2.2.2.1⟩
theorem zblind {D : va_G} {T : Nat → ClassId} {A : Nat → Nat} {h : zH} {av : List Value} : FrameBlind (va_Pc av (zPre D T A h)) := fun a U g mk q => by
  obtain ⟨q0, qP, qK, qD, qS⟩ := q
  exact ⟨q0, qP, va_K.moved (u := U) (U := U.calling g mk a) (Vm.Alike.refl U.vm) qK, qD, ⟨⟨qS.1.1.moved (Vm.Alike.refl U.vm), qS.1.2.moved (Vm.Alike.refl U.vm)⟩, ⟨qS.2.1.1.moved (Vm.Alike.refl U.vm), qS.2.1.2.moved (Vm.Alike.refl U.vm)⟩, va_Nw.same rfl (u := U) (U := U.calling g mk a) rfl qS.2.2⟩⟩
set_option maxHeartbeats 4000000 in
/-- going on behind a run of a callee -/
theorem zgo {X : zX} {d : Nat} {h : zH} {H : Heap} {locs : List Loc} {ls : Array Slot} {lv : List (Option zV)} {rest : List zV} {ret : Option FieldType} {P : zQ} {a : Array Value} {st0 : List Value} {pc : Nat} (Z : zCx X d k) (hD : va_D (xF X) (wld (xT X) (xA X) h)) (hS : va_S (xF X) (xs X).heap H locs) (hl : lvx (xc X).maxLocals (xA X) ls lv)
    (hr : va_Run (xp X) (xl X) (xe X) (xR X) (xs X) (xm X) (xa X) (xb X) (xh X) (xc X) H locs (xk X).1 (xk X).2 0 0 (F0 (xm X) pc ls st0) (rest.map (cvV (xA X))) (zQQ (xD X) (xT X) (xA X) ret P a) (frA (xA X)))
    (hk : ∀ o h', P o h' → zJ X (pc + 3) lv (o.toList ++ rest) h') :
    W (xp X) (xl X) (xe X) (xR X) (xs X) (xm X) (xa X) (xb X) (xh X) (xc X) H locs (xk X).1 (xk X).2 (xQ X) (F0 (xm X) pc ls st0) := by
  have fin : ∀ (h' : zH) (H1 : Heap) (locs1 : List Loc) (t : State) (o : Option zV), t.heap = H1 → va_P (xD X) vwCl (wld (xT X) (xA X) h') t.heap → va_S (xF X) (xs X).heap H1 locs1 → P o h' → W (xp X) (xl X) (xe X) (xR X) (xs X) (xm X) (xa X) (xb X) (xh X) (xc X) H1 locs1 (xk X).1 (xk X).2 (xQ X) (F0 (xm X) (pc + 3) ls ((o.toList ++ rest).map (cvV (xA X)))) := by
    intro h' H1 locs1 t o ht hB hS1 hp
    exact hk o h' hp H1 locs1 ls (by rw [← ht]; exact hB) (wld_D hD (fun c hc => wld_F hD hc)) hS1 hl
  have fini : ∀ (hr : va_Run (xp X) (xl X) (xe X) (xR X) (xs X) (xm X) (xa X) (xb X) (xh X) (xc X) H locs (xk X).1 (xk X).2 0 0 (F0 (xm X) pc ls st0) (rest.map (cvV (xA X))) (va_Qi (fun r (u : zH × Int) => r = i32 u.2 ∧ P (some (sI u.2)) u.1) (fun u t => va_P (xD X) vwCl (wld (xT X) (xA X) u.1) t.heap) (frA (xA X)) a) (frA (xA X))), W (xp X) (xl X) (xe X) (xR X) (xs X) (xm X) (xa X) (xb X) (xh X) (xc X) H locs (xk X).1 (xk X).2 (xQ X) (F0 (xm X) pc ls st0) := by
    intro hr
    refine va_calli (a := a) hr hS (fun q _ h9 => frA_F hD q h9) (fun q h9 => frA_F hD q h9) (fun r u t H1 locs1 ht hvm hw hB hz1 hk1 hS1 => ?_)
    obtain ⟨rfl, hw⟩ := hw
    exact fin u.1 H1 locs1 t _ ht hB hS1 hw
  rcases ret with _ | ty
  · refine va_callv (a := a) hr hS (fun q _ h9 => frA_F hD q h9) (fun q h9 => frA_F hD q h9) (fun u t H1 locs1 ht hvm hw hB hz1 hk1 hS1 => ?_)
    exact fin u H1 locs1 t none ht hB hS1 hw
  · cases ty with
    | long =>
      refine va_calll (a := a) hr hS (fun q _ h9 => frA_F hD q h9) (fun q h9 => frA_F hD q h9) (fun r u t H1 locs1 ht hvm hw hB hz1 hk1 hS1 => ?_)
      exact fin u H1 locs1 t _ ht hB hS1 hw
    | array ty =>
      refine va_callr (a := a) hr hS (fun q _ h9 => frA_F hD q h9) (fun q h9 => frA_F hD q h9) (fun u ra t H1 locs1 ht hvm hw hB hz1 hk1 hS1 => ?_)
      obtain ⟨rfl, hB⟩ := hB
      exact fin u.1 H1 locs1 t _ ht hB hS1 hw
    | _ => exact fini hr
theorem zgood {y : MethodName} {b : ByteArray} {mL : Nat} {ret : Option FieldType} (h : Cond.code y b mL ret ∈ BIG) : GoodIn BIG (Cond.code y b mL ret :: BIG) := fun w hw => by
  rcases List.mem_cons.mp hw with rfl | hw
  · exact ⟨h, BIG_good h⟩
  · exact ⟨hw, BIG_good hw⟩
theorem zgoodV {ws : List Cond} {own C : String} {idx : Nat} {y : MethodName} (h : GoodIn BIG ws) (h1 : Cond.methodLink own idx y ∈ BIG) (h2 : Cond.instanceMethod y ∈ BIG) (h3 : Cond.selects C y y ∈ BIG) (h4 : Cond.initialized C ∈ BIG) : GoodIn BIG (wsV own idx C y ws) := fun w hw => by
  unfold wsV at hw
  rcases List.mem_append.mp hw with hw | hw
  · have : w ∈ BIG := by
      simp only [List.mem_cons, List.not_mem_nil, or_false] at hw
      rcases hw with rfl | rfl | rfl | rfl <;> assumption
    exact ⟨this, BIG_good this⟩
  · exact h w hw
theorem zgoodS {ws : List Cond} {own : String} {idx : Nat} {y : MethodName} (h : GoodIn BIG ws) (h1 : Cond.methodLink own idx y ∈ BIG) (h2 : Cond.static y ∈ BIG) (h4 : Cond.initialized y.cls ∈ BIG) : GoodIn BIG (va_wsS own idx y ws) := fun w hw => by
  unfold va_wsS at hw
  rcases List.mem_append.mp hw with hw | hw
  · have : w ∈ BIG := by
      simp only [List.mem_cons, List.not_mem_nil, or_false] at hw
      rcases hw with rfl | rfl | rfl <;> assumption
    exact ⟨this, BIG_good this⟩
  · exact h w hw
set_option maxHeartbeats 4000000 in
theorem s_callv {m ci idx N : Nat} {T : u_T} {k' : zM} (hc : vwCl[ci]? = some (k'.1.cls, T, N)) (h0 : Cond.code k'.1 k'.2.1 k'.2.2.1 k'.2.2.2 ∈ BIG) (h1 : Cond.methodLink k.1.cls idx k'.1 ∈ BIG) (h2 : Cond.instanceMethod k'.1 ∈ BIG) (h3 : Cond.selects k'.1.cls k'.1 k'.1 ∈ BIG) (h4 : Cond.initialized k'.1.cls ∈ BIG)
    (hdesc : k'.1.cls = k'.1.cls ∧ k'.1.cls ≠ "java/lang/invoke/MethodHandle" ∧ k'.1.cls ≠ "java/lang/invoke/VarHandle" ∧ (parseMethodDescriptor k'.1.desc).map (fun d => d.parameters.length) = some m) (hmL : k'.2.2.1 ≤ 40) (hd : decode k.2.1 pc = .ok (.invokevirtual idx, 3)) (hn : pc + 3 = n) : zS k pc (o_callv m ci k' n) := by
  intro X d Q Z E K hK lv st h hk
  subst hn
  unfold o_callv at hk
  split at hk
  · rename_i b As rest hpop
    split at hk
    · rename_i c ks hcat hsh
      split at hk
      · rename_i hbeq
        have hci : c = ci := Nat.eq_of_beq_eq_true hbeq
        obtain ⟨d', P, hd', hC, hk⟩ := hk
        obtain ⟨l, e1, e2, e3⟩ := popA_spec _ _ _ _ _ hpop
        rw [List.append_nil] at e1
        subst e1
        intro H locs ls hP hD hS hl
        have hst : st.map (cvV (xA X)) = (As.map (cvV (xA X))).reverse ++ Value.ref (xA X b) :: rest.map (cvV (xA X)) := by
          rw [e2]
          simp [cvV]
        have hrec : ∃ cellB : Cell, H[xA X b]? = some cellB ∧ cellB.vm.isStatics = false ∧ (xs X).vm.findClass k'.1.cls = some cellB.cls := by
          subst hci
          exact va_recv (ci := c) (q := (k'.1.cls, T, N)) Z.2.2.2.2.2.1 hP hc (cell_0 hsh)
        have hr := va_runV (As := As.map (cvV (xA X))) (rest := rest.map (cvV (xA X))) (b := xA X b) (g := F0 (xm X) pc ls (st.map (cvV (xA X)))) (locs := locs) (cells := (xk X).1) (slots := (xk X).2) (e := xe X) (below := xb X) (meth := xh X) ⟨Z.1, Z.2.1, Z.2.2.1, Z.2.2.2.1, Z.2.2.2.2.1⟩ (hC (xl X) (xD X) (xT X) (xA X))
          (cwV m Z.2.2.2.2.1 (zgoodV (zgood h0) h1 h2 h3 h4) rfl rfl rfl hdesc ⟨Nat.le_trans hd' Z.2.2.2.2.2.2.2.1, by
            have h9 := Z.2.2.2.2.2.2.2.2.1
            show 8 + (k'.2.2.1 + 11) + 64 * d' ≤ (xR X).locals
            omega⟩) ⟨zblind, hrec, fun U hU hW => ⟨rfl, zpre_call Z hP hD hS U hU hW⟩⟩ rfl (by rw [List.length_map]; have := e3; simp at this; omega) (hl.1.trans Z.2.2.1) hst (lv_room (pc := pc) (ls := ls) (m := xm X) (rest := st.map (cvV (xA X))) (by rw [catS_eq]; exact Nat.le_of_ble_eq_true hcat)) hd ⟨Z.2.2.2.2.2.2.2.2.2.1, Z.2.2.2.2.2.2.2.2.2.2.1⟩
        exact zgo Z hD hS hl hr (fun o h' hp => hK _ _ _ _ (hk o h' hp))
      · exact hk.elim
    · exact hk.elim
  · exact hk.elim
set_option maxHeartbeats 4000000 in
theorem s_calls {m idx : Nat} {k' : zM} (h0 : Cond.code k'.1 k'.2.1 k'.2.2.1 k'.2.2.2 ∈ BIG) (h1 : Cond.methodLink k.1.cls idx k'.1 ∈ BIG) (h2 : Cond.static k'.1 ∈ BIG) (h4 : Cond.initialized k'.1.cls ∈ BIG)
    (hdesc : k'.1.cls ≠ "java/lang/invoke/MethodHandle" ∧ k'.1.cls ≠ "java/lang/invoke/VarHandle" ∧ (parseMethodDescriptor k'.1.desc).map (fun d => d.parameters.length) = some m) (hmL : k'.2.2.1 ≤ 40) (hd : decode k.2.1 pc = .ok (.invokestatic idx, 3)) (hn : pc + 3 = n) : zS k pc (o_calls m k' n) := by
  intro X d Q Z E K hK lv st h hk
  subst hn
  unfold o_calls at hk
  split at hk
  · rename_i As rest hpop
    split at hk
    · rename_i hcat
      obtain ⟨d', P, hd', hC, hk⟩ := hk
      obtain ⟨l, e1, e2, e3⟩ := popA_spec _ _ _ _ _ hpop
      rw [List.append_nil] at e1
      subst e1
      intro H locs ls hP hD hS hl
      have hst : st.map (cvV (xA X)) = (As.map (cvV (xA X))).reverse ++ rest.map (cvV (xA X)) := by
        rw [e2]
        simp
      have hr := va_runS (As := As.map (cvV (xA X))) (rest := rest.map (cvV (xA X))) (g := F0 (xm X) pc ls (st.map (cvV (xA X)))) (locs := locs) (cells := (xk X).1) (slots := (xk X).2) (e := xe X) (below := xb X) (meth := xh X) ⟨Z.1, Z.2.1, Z.2.2.1, Z.2.2.2.1, Z.2.2.2.2.1⟩ (hC (xl X) (xD X) (xT X) (xA X))
        (va_cwS m Z.2.2.2.2.1 (zgoodS (zgood h0) h1 h2 h4) rfl rfl rfl hdesc ⟨Nat.le_trans hd' Z.2.2.2.2.2.2.2.1, by
          have h9 := Z.2.2.2.2.2.2.2.2.1
          show 8 + (k'.2.2.1 + 11) + 64 * d' ≤ (xR X).locals
          omega⟩) ⟨zblind, fun U hU hW => ⟨rfl, zpre_call Z hP hD hS U hU hW⟩⟩ rfl (by rw [List.length_map]; exact e3) (hl.1.trans Z.2.2.1) hst (lv_room (pc := pc) (ls := ls) (m := xm X) (rest := st.map (cvV (xA X))) (by rw [catS_eq]; exact Nat.le_of_ble_eq_true hcat)) hd ⟨Z.2.2.2.2.2.2.2.2.2.1, Z.2.2.2.2.2.2.2.2.2.2.1⟩
      exact zgo Z hD hS hl hr (fun o h' hp => hK _ _ _ _ (hk o h' hp))
    · exact hk.elim
  · exact hk.elim
set_option maxHeartbeats 4000000 in
/-- the one call of a private static method of a nest mate -/
theorem s_callsN {m idx : Nat} {k' : zM} (hk' : k'.1 = yX8_within) (hown : k.1.cls = RX0) (hidx : idx = 28) (h0 : Cond.code k'.1 k'.2.1 k'.2.2.1 k'.2.2.2 ∈ BIG) (h2 : Cond.static k'.1 ∈ BIG) (h4 : Cond.initialized k'.1.cls ∈ BIG)
    (hdesc : k'.1.cls ≠ "java/lang/invoke/MethodHandle" ∧ k'.1.cls ≠ "java/lang/invoke/VarHandle" ∧ (parseMethodDescriptor k'.1.desc).map (fun d => d.parameters.length) = some m) (hmL : k'.2.2.1 ≤ 40) (hd : decode k.2.1 pc = .ok (.invokestatic idx, 3)) (hn : pc + 3 = n) : zS k pc (o_calls m k' n) := by
  intro X d Q Z E K hK lv st h hk
  subst hn
  unfold o_calls at hk
  split at hk
  · rename_i As rest hpop
    split at hk
    · rename_i hcat
      obtain ⟨d', P, hd', hC, hk⟩ := hk
      obtain ⟨l, e1, e2, e3⟩ := popA_spec _ _ _ _ _ hpop
      rw [List.append_nil] at e1
      subst e1
      intro H locs ls hP hD hS hl
      have hst : st.map (cvV (xA X)) = (As.map (cvV (xA X))).reverse ++ rest.map (cvV (xA X)) := by
        rw [e2]
        simp
      have hr := va_runSN (host := RX8) (As := As.map (cvV (xA X))) (rest := rest.map (cvV (xA X))) (g := F0 (xm X) pc ls (st.map (cvV (xA X)))) (locs := locs) (cells := (xk X).1) (slots := (xk X).2) (e := xe X) (below := xb X) (meth := xh X) ⟨Z.1, Z.2.1, Z.2.2.1, Z.2.2.2.1, Z.2.2.2.2.1⟩ (hC (xl X) (xD X) (xT X) (xA X))
        ⟨va_cnB m Z.2.2.2.2.1 (zgood h0) rfl rfl rfl (by rw [hk', hown, hidx]; exact Z.2.2.2.2.2.2.1.2.2) (Z.2.2.2.2.1 _ h4) hdesc ⟨Nat.le_trans hd' Z.2.2.2.2.2.2.2.1, by
          have h9 := Z.2.2.2.2.2.2.2.2.1
          show 8 + (k'.2.2.1 + 11) + 64 * d' ≤ (xR X).locals
          omega⟩, Z.2.2.2.2.1 _ h2, trivial⟩ ⟨zblind, fun U hU hW => ⟨rfl, zpre_call Z hP hD hS U hU hW⟩⟩ rfl (by rw [List.length_map]; exact e3) (hl.1.trans Z.2.2.1) hst (lv_room (pc := pc) (ls := ls) (m := xm X) (rest := st.map (cvV (xA X))) (by rw [catS_eq]; exact Nat.le_of_ble_eq_true hcat)) hd ⟨Z.2.2.2.2.2.2.2.2.2.1, Z.2.2.2.2.2.2.2.2.2.2.1⟩
      exact zgo Z hD hS hl hr (fun o h' hp => hK _ _ _ _ (hk o h' hp))
    · exact hk.elim
  · exact hk.elim
/-- Math.max, Math.min -/
def o_mmax (n : Nat) : zO := fun d _ lv st h K => match st with
  | .inl y :: .inl x :: r => match Nat.ble (catS r) 8 with
    | true => 1 ≤ d ∧ inR x ∧ inR y ∧ K n lv (sI (max x y) :: r) h
    | false => False
  | _ => False
theorem s_mmax {idx : Nat} (h1 : Cond.methodLink k.1.cls idx Lib.Math.max.name ∈ BIG) (h2 : Cond.static Lib.Math.max.name ∈ BIG) (h3 : Cond.initialized "java/lang/Math" ∈ BIG) (h4 : Cond.code Lib.Math.max.name Lib.Math.max.code 2 (some .int) ∈ BIG) (hd : decode k.2.1 pc = .ok (.invokestatic idx, 3)) (hn : pc + 3 = n) : zS k pc (o_mmax n) := by
  intro X d Q Z E K hK lv st h hk
  subst hn
  unfold o_mmax at hk
  split at hk
  · rename_i y x r
    split at hk
    · rename_i hcat
      obtain ⟨hd1, hx, hy, hk⟩ := hk
      intro H locs ls hP hD hS hl
      refine va_mmax (cells := (xk X).1) (slots := (xk X).2) Z.1 Z.2.1 hl.1.symm Z.2.2.2.1 (Z.2.2.2.2.1 _ h1) (Z.2.2.2.2.1 _ h2) (Z.2.2.2.2.1 _ h3) (Z.2.2.2.2.1 _ h4) (Nat.le_trans hd1 Z.2.2.2.2.2.2.2.1) (by
        have h9 := Z.2.2.2.2.2.2.2.2.1
        have hc := Nat.le_of_ble_eq_true hcat
        rw [catS_eq]
        omega) Z.2.2.2.2.2.2.2.2.2.1 Z.2.2.2.2.2.2.2.2.2.2.1 hd ?_
      have e : (if i32 x < i32 y then i32 y else i32 x) = i32 (max x y) := by
        by_cases hlt : x < y
        · rw [if_pos ((i32_lt hx hy).mpr hlt), Int.max_eq_right (by omega)]
        · rw [if_neg (fun q => hlt ((i32_lt hx hy).mp q)), Int.max_eq_left (by omega)]
      rw [e]
      exact hK _ _ _ _ hk H locs ls hP hD hS hl
    · exact hk.elim
  · exact hk.elim
def o_mmin (n : Nat) : zO := fun d _ lv st h K => match st with
  | .inl y :: .inl x :: r => match Nat.ble (catS r) 8 with
    | true => 1 ≤ d ∧ inR x ∧ inR y ∧ K n lv (sI (min x y) :: r) h
    | false => False
  | _ => False
theorem s_mmin {idx : Nat} (h1 : Cond.methodLink k.1.cls idx Lib.Math.min.name ∈ BIG) (h2 : Cond.static Lib.Math.min.name ∈ BIG) (h3 : Cond.initialized "java/lang/Math" ∈ BIG) (h4 : Cond.code Lib.Math.min.name Lib.Math.min.code 2 (some .int) ∈ BIG) (hd : decode k.2.1 pc = .ok (.invokestatic idx, 3)) (hn : pc + 3 = n) : zS k pc (o_mmin n) := by
  intro X d Q Z E K hK lv st h hk
  subst hn
  unfold o_mmin at hk
  split at hk
  · rename_i y x r
    split at hk
    · rename_i hcat
      obtain ⟨hd1, hx, hy, hk⟩ := hk
      intro H locs ls hP hD hS hl
      refine va_mmin (cells := (xk X).1) (slots := (xk X).2) Z.1 Z.2.1 hl.1.symm Z.2.2.2.1 (Z.2.2.2.2.1 _ h1) (Z.2.2.2.2.1 _ h2) (Z.2.2.2.2.1 _ h3) (Z.2.2.2.2.1 _ h4) (Nat.le_trans hd1 Z.2.2.2.2.2.2.2.1) (by
        have h9 := Z.2.2.2.2.2.2.2.2.1
        have hc := Nat.le_of_ble_eq_true hcat
        rw [catS_eq]
        omega) Z.2.2.2.2.2.2.2.2.2.1 Z.2.2.2.2.2.2.2.2.2.2.1 hd ?_
      have e : (if i32 y < i32 x then i32 y else i32 x) = i32 (min x y) := by
        by_cases hlt : y < x
        · rw [if_pos ((i32_lt hy hx).mpr hlt), Int.min_eq_right (by omega)]
        · rw [if_neg (fun q => hlt ((i32_lt hy hx).mp q)), Int.min_eq_left (by omega)]
      rw [e]
      exact hK _ _ _ _ hk H locs ls hP hD hS hl
    · exact hk.elim
  · exact hk.elim
def o_acopy (n : Nat) : zO := fun d _ lv st h K => match st with
  | .inl m :: .inl dp :: .inr (.inr (some b)) :: .inl sp :: .inr (.inr (some a)) :: r => match Nat.ble (catS r) 8, SHP a, SHP b with
    | true, (1, la, _), (1, lb, _) => 1 ≤ d ∧ 0 ≤ sp ∧ 0 ≤ dp ∧ 0 ≤ m ∧ sp + m ≤ (la : Int) ∧ dp + m ≤ (lb : Int) ∧ K n lv r (cpI h a sp.toNat b dp.toNat m.toNat)
    | true, (2, la, _), (2, lb, _) => 1 ≤ d ∧ 0 ≤ sp ∧ 0 ≤ dp ∧ 0 ≤ m ∧ sp + m ≤ (la : Int) ∧ dp + m ≤ (lb : Int) ∧ K n lv r (cpL h a sp.toNat b dp.toNat m.toNat)
    | _, _, _ => False
  | _ => False
theorem i32_nn {x : Int} (h0 : 0 ≤ x) (h1 : x < 2147483648) : ¬ i32 x < 0 := fun q => by
  have := (i32_lt (x := x) (y := 0) ⟨by omega, by omega⟩ inR_0).mp q
  omega
set_option maxHeartbeats 4000000 in
theorem s_acopy {idx : Nat} (h1 : Cond.methodLink k.1.cls idx arraycopyName ∈ BIG) (h2 : Cond.native arraycopyName ∈ BIG) (h3 : Cond.static arraycopyName ∈ BIG) (h4 : Cond.initialized "java/lang/System" ∈ BIG) (hd : decode k.2.1 pc = .ok (.invokestatic idx, 3)) (hn : pc + 3 = n) : zS k pc (o_acopy n) := by
  intro X d Q Z E K hK lv st h hk
  subst hn
  unfold o_acopy at hk
  split at hk
  · rename_i m dp b sp a r
    split at hk
    · rename_i la ka lb kb hcat ha hb
      obtain ⟨hd1, g1, g2, g3, g4, g5, hk⟩ := hk
      have hla : la < 2147483648 := by have := SHP_len a; rw [ha] at this; exact this
      have hlb : lb < 2147483648 := by have := SHP_len b; rw [hb] at this; exact this
      intro H locs ls hP hD hS hl
      refine va_copyi Z.1 Z.2.1 hl.1.symm Z.2.2.2.1 (Z.2.2.2.2.1 _ h1) (Z.2.2.2.2.1 _ h2) (Z.2.2.2.2.1 _ h3) (Z.2.2.2.2.1 _ h4) Z.2.2.2.2.2.1 hP hD hS a b 0 0 (cell_1 ha) (cell_1 hb) (ty := .int) rfl rfl rfl (i32_nn g1 (by omega)) (i32_nn g2 (by omega)) (i32_nn g3 (by omega)) (by rw [i32_nat g1 (by omega), i32_nat g3 (by omega)]; omega) (by rw [i32_nat g2 (by omega), i32_nat g3 (by omega)]; omega) (fun i _ => rfl)
        (Nat.le_trans hd1 Z.2.2.2.2.2.2.2.1) (by
        have h9 := Z.2.2.2.2.2.2.2.2.1
        have hc := Nat.le_of_ble_eq_true hcat
        have hw : nativeFrameWords "java/lang/System" "arraycopy" 5 + 11 ≤ 50 := by decide
        rw [catS_eq]
        omega) hd (fun H1 locs1 hP1 hD1 hS1 => ?_)
      have e : (wld (xT X) (xA X) h).set b (xA X b, .inl (xT X 0, lb, .inl (va_cpy (fun j => i32 (h.1 a j)) (fun j => i32 (h.1 b j)) (i32 sp).toNatClampNeg (i32 dp).toNatClampNeg (i32 m).toNatClampNeg))) = wld (xT X) (xA X) (cpI h a sp.toNat b dp.toNat m.toNat) := by
        refine wld_new ?_ cpI_o
        rw [hb, i32_nat g1 (by omega), i32_nat g2 (by omega), i32_nat g3 (by omega)]
        show Sum.inl _ = Sum.inl _
        congr 4
        funext i
        unfold va_cpy cpI
        simp only [if_true]
        unfold va_cpy
        split <;> rfl
      rw [e] at hP1 hD1
      exact hK _ _ _ _ hk H1 locs1 ls hP1 hD1 hS1 hl
    · rename_i la ka lb kb hcat ha hb
      obtain ⟨hd1, g1, g2, g3, g4, g5, hk⟩ := hk
      have hla : la < 2147483648 := by have := SHP_len a; rw [ha] at this; exact this
      have hlb : lb < 2147483648 := by have := SHP_len b; rw [hb] at this; exact this
      intro H locs ls hP hD hS hl
      refine va_copyl Z.1 Z.2.1 hl.1.symm Z.2.2.2.1 (Z.2.2.2.2.1 _ h1) (Z.2.2.2.2.1 _ h2) (Z.2.2.2.2.1 _ h3) (Z.2.2.2.2.1 _ h4) Z.2.2.2.2.2.1 hP hD hS a b 1 1 (cell_2 ha) (cell_2 hb) (ty := .long) rfl rfl rfl (i32_nn g1 (by omega)) (i32_nn g2 (by omega)) (i32_nn g3 (by omega)) (by rw [i32_nat g1 (by omega), i32_nat g3 (by omega)]; omega) (by rw [i32_nat g2 (by omega), i32_nat g3 (by omega)]; omega) (fun i _ => rfl)
        (Nat.le_trans hd1 Z.2.2.2.2.2.2.2.1) (by
        have h9 := Z.2.2.2.2.2.2.2.2.1
        have hc := Nat.le_of_ble_eq_true hcat
        have hw : nativeFrameWords "java/lang/System" "arraycopy" 5 + 11 ≤ 50 := by decide
        rw [catS_eq]
        omega) hd (fun H1 locs1 hP1 hD1 hS1 => ?_)
      have e : (wld (xT X) (xA X) h).set b (xA X b, .inl (xT X 1, lb, .inr (.inl (va_cpy (h.2 a) (h.2 b) (i32 sp).toNatClampNeg (i32 dp).toNatClampNeg (i32 m).toNatClampNeg)))) = wld (xT X) (xA X) (cpL h a sp.toNat b dp.toNat m.toNat) := by
        refine wld_new ?_ cpL_o
        rw [hb, i32_nat g1 (by omega), i32_nat g2 (by omega), i32_nat g3 (by omega)]
        show Sum.inl _ = Sum.inl _
        congr 5
        funext i
        unfold cpL
        simp
      rw [e] at hP1 hD1
      exact hK _ _ _ _ hk H1 locs1 ls hP1 hD1 hS1 hl
    · exact hk.elim
  · exact hk.elim
def swL (x : Int) : Int → List Nat → (Nat → Prop) → Prop
  | _, [], _ => True
  | lo, t :: ts, K => (x = lo → K t) ∧ swL x (lo + 1) ts K
theorem swL_at {x : Int} {K : Nat → Prop} : ∀ (ts : List Nat) (lo : Int) (i : Nat) (t : Nat), swL x lo ts K → ts[i]? = some t → x = lo + i → K t
  | [], lo, i, t, _, h, _ => by simp at h
  | t' :: ts, lo, 0, t, hs, h, hx => by
    have : t' = t := by simpa using h
    subst this
    exact hs.1 (by simpa using hx)
  | t' :: ts, lo, i + 1, t, hs, h, hx => swL_at ts (lo + 1) i t hs.2 (by simpa using h) (by rw [hx]; push_cast; omega)
def o_tsw (lo hi : Int) (ts : List Nat) (df : Nat) : zO := fun _ _ lv st h K => match st with
  | .inl x :: r => inR x ∧ (x < lo ∨ hi < x → K df lv r h) ∧ swL x lo ts (fun t => K t lv r h)
  | _ => False
theorem s_tsw {lo hi dfo : Int} {offs : Array Int} {ts : List Nat} {df len : Nat} (hd : decode k.2.1 pc = .ok (.tableswitch dfo lo hi offs, len)) (hdf : (pc : Int) + dfo = (df : Int)) (hts : offs.toList.map (fun o => (pc : Int) + o) = ts.map (fun t : Nat => (t : Int))) (hlen : ((offs.size : Nat) : Int) = hi - lo + 1) : zS k pc (o_tsw lo hi ts df) := by
  intro X d Q Z E K hK lv st h hk
  unfold o_tsw at hk
  split at hk
  · rename_i x r
    obtain ⟨hx, k1, k2⟩ := hk
    intro H locs ls hP hD hS hl
    by_cases hout : x < lo ∨ hi < x
    · exact lv_tableOut Z.1 Z.2.1 hd (by rw [i32_toInt hx]; exact hout) hdf (hK _ _ _ _ (k1 hout) H locs ls hP hD hS hl)
    · have hi2 : (x - lo).toNat < offs.size := by omega
      have ho : offs[(x - lo).toNat]? = some offs[(x - lo).toNat] := Array.getElem?_eq_getElem hi2
      have hlts : ts.length = offs.size := by
        have := congrArg List.length hts
        simpa using this.symm
      have ht : ts[(x - lo).toNat]? = some (ts[(x - lo).toNat]'(by omega)) := List.getElem?_eq_getElem _
      have he : (pc : Int) + offs[(x - lo).toNat] = ((ts[(x - lo).toNat]'(by omega) : Nat) : Int) := by
        have h9 := congrArg (fun l => l[(x - lo).toNat]?) hts
        simp only [List.getElem?_map, ht, Array.getElem?_toList, ho, Option.map_some, Option.some.injEq] at h9
        exact h9
      exact lv_tableIn Z.1 Z.2.1 hd (by rw [i32_toInt hx]; omega) (by rw [i32_toInt hx]; omega) (by rw [i32_toInt hx]; exact ho) he (hK _ _ _ _ (swL_at ts lo _ _ k2 ht (by omega)) H locs ls hP hD hS hl)
  · exact hk.elim
def lsL (x : Int) : List (Int × Nat) → Nat → (Nat → Prop) → Prop
  | [], df, K => K df
  | (a, t) :: ps, df, K => (x = a → K t) ∧ (¬ x = a → lsL x ps df K)
theorem lsL_at {x : Int} {K : Nat → Prop} {pc : Nat} {dfo : Int} {df : Nat} (hdf : (pc : Int) + dfo = (df : Int)) : ∀ (os : List (Int × Int)) (ps : List (Int × Nat)), os.map (fun q => (q.1, (pc : Int) + q.2)) = ps.map (fun q => (q.1, ((q.2 : Nat) : Int))) → lsL x ps df K → ∃ t : Nat, (pc : Int) + Op.lookupswitch.offset os dfo x = (t : Int) ∧ K t
  | [], [], _, h => ⟨df, by simpa [Op.lookupswitch.offset] using hdf, h⟩
  | [], _ :: _, e, _ => by simp at e
  | _ :: _, [], e, _ => by simp at e
  | (a, o) :: os, (a', t) :: ps, e, h => by
    simp only [List.map_cons, List.cons.injEq, Prod.mk.injEq] at e
    obtain ⟨⟨rfl, e2⟩, e3⟩ := e
    by_cases hx : x = a
    · exact ⟨t, by simpa [Op.lookupswitch.offset, hx] using e2, h.1 hx⟩
    · obtain ⟨t', h1, h2⟩ := lsL_at hdf os ps e3 (h.2 hx)
      refine ⟨t', ?_, h2⟩
      rw [← h1]
      have : Op.lookupswitch.offset ((a, o) :: os) dfo x = Op.lookupswitch.offset os dfo x := by
        simp only [Op.lookupswitch.offset, List.find?_cons]
        have : (a == x) = false := by simpa using fun q => hx q.symm
        simp [this]
        intro q
        exact absurd q.symm hx
      rw [this]
def o_lsw (ps : List (Int × Nat)) (df : Nat) : zO := fun _ _ lv st h K => match st with
  | .inl x :: r => inR x ∧ lsL x ps df (fun t => K t lv r h)
  | _ => False
theorem s_lsw {dfo : Int} {os : Array (Int × Int)} {ps : List (Int × Nat)} {df len : Nat} (hd : decode k.2.1 pc = .ok (.lookupswitch dfo os, len)) (hp : (os.toList.zip (os.toList.drop 1)).all (fun (a, next) => a.1 < next.1) = true) (hdf : (pc : Int) + dfo = (df : Int)) (hps : os.toList.map (fun q => (q.1, (pc : Int) + q.2)) = ps.map (fun q => (q.1, ((q.2 : Nat) : Int)))) : zS k pc (o_lsw ps df) := by
  intro X d Q Z E K hK lv st h hk
  unfold o_lsw at hk
  split at hk
  · rename_i x r
    obtain ⟨hx, hk⟩ := hk
    obtain ⟨t, h1, h2⟩ := lsL_at hdf _ _ hps hk
    intro H locs ls hP hD hS hl
    exact lv_lookup Z.1 Z.2.1 hd hp rfl (by rw [i32_toInt hx]; exact h1) (hK _ _ _ _ h2 H locs ls hP hD hS hl)
  · exact hk.elim
def o_iret : zO := fun _ Q _ st h _ => match st with
  | [.inl x] => Q (some (sI x)) h
  | _ => False
theorem s_iret (hr : k.2.2.2 = some .int) (hd : decode k.2.1 pc = .ok (.ireturn, 1)) : zS k pc o_iret := by
  intro X d Q Z E K hK lv st h hk
  unfold o_iret at hk
  split at hk
  · rename_i x
    exact E pc _ lv h hk (Or.inl ⟨hd, x, rfl, Or.inl hr⟩)
  · exact hk.elim
def o_zret : zO := fun _ Q _ st h _ => match st with
  | [.inl x] => (x = 0 ∨ x = 1) ∧ Q (some (sI x)) h
  | _ => False
theorem s_zret (hr : k.2.2.2 = some .boolean) (hd : decode k.2.1 pc = .ok (.ireturn, 1)) : zS k pc o_zret := by
  intro X d Q Z E K hK lv st h hk
  unfold o_zret at hk
  split at hk
  · rename_i x
    exact E pc _ lv h hk.2 (Or.inl ⟨hd, x, rfl, Or.inr ⟨hr, hk.1⟩⟩)
  · exact hk.elim
def o_lret : zO := fun _ Q _ st h _ => match st with
  | [.inr (.inl x)] => Q (some (sL x)) h
  | _ => False
theorem s_lret (hr : k.2.2.2 = some .long) (hd : decode k.2.1 pc = .ok (.lreturn, 1)) : zS k pc o_lret := by
  intro X d Q Z E K hK lv st h hk
  unfold o_lret at hk
  split at hk
  · rename_i x
    exact E pc _ lv h hk (Or.inr (Or.inl ⟨hd, x, rfl, hr⟩))
  · exact hk.elim
def o_aret : zO := fun _ Q _ st h _ => match st with
  | [.inr (.inr (some a))] => Q (some (sR a)) h
  | _ => False
theorem s_aret (hr : k.2.2.2 = some (.array .int)) (hd : decode k.2.1 pc = .ok (.areturn, 1)) : zS k pc o_aret := by
  intro X d Q Z E K hK lv st h hk
  unfold o_aret at hk
  split at hk
  · rename_i x
    exact E pc _ lv h hk (Or.inr (Or.inr (Or.inl ⟨hd, x, rfl, hr⟩)))
  · exact hk.elim
def o_vret : zO := fun _ Q _ st h _ => match st with
  | [] => Q none h
  | _ => False
theorem s_vret (hr : k.2.2.2 = none) (hd : decode k.2.1 pc = .ok (.return_, 1)) : zS k pc o_vret := by
  intro X d Q Z E K hK lv st h hk
  unfold o_vret at hk
  split at hk
  · exact E pc _ lv h hk (Or.inr (Or.inr (Or.inr ⟨hd, rfl, hr⟩)))
  · exact hk.elim
/-! ===== the run of a method's table ===== -/
def zrun (T : List (Nat × zO)) (cut : List Nat) (d : Nat) (Q : zQ) (JJ : zK) : Nat → zK
  | 0 => JJ
  | m + 1 => fun pc lv st h => match T.lookup pc with
    | none => JJ pc lv st h
    | some o => o d Q lv st h (fun pc' lv' st' h' => match cut.contains pc' with
      | true => JJ pc' lv' st' h'
      | false => zrun T cut d Q JJ m pc' lv' st' h')
theorem zrun_sound {T : List (Nat × zO)} (hT : ∀ q ∈ T, zS k q.1 q.2) {X : zX} {d : Nat} {Q : zQ} (C : zCx X d k) (E : zEx X k Q) (cut : List Nat) : ∀ (m pc : Nat) (lv : List (Option zV)) (st : List zV) (h : zH), zrun T cut d Q (zJ X) m pc lv st h → zJ X pc lv st h
  | 0, _, _, _, _, hk => hk
  | m + 1, pc, lv, st, h, hk => by
    unfold zrun at hk
    split at hk
    · exact hk
    · rename_i o ho
      have hm : ∃ q ∈ T, q.1 = pc ∧ q.2 = o := by
        clear hk hT
        induction T with
        | nil => simp at ho
        | cons a T ih =>
          obtain ⟨b, o'⟩ := a
          rw [List.lookup_cons] at ho
          by_cases hb : pc = b
          · subst hb
            simp at ho
            exact ⟨(pc, o'), List.mem_cons_self, rfl, ho⟩
          · have : (pc == b) = false := by simpa using hb
            rw [this] at ho
            obtain ⟨q, h1, h2⟩ := ih ho
            exact ⟨q, List.mem_cons_of_mem _ h1, h2⟩
      obtain ⟨q, hq, rfl, rfl⟩ := hm
      refine hT q hq X d Q C E _ (fun pc' lv' st' h' hk' => ?_) lv st h hk
      split at hk'
      · exact hk'
      · exact zrun_sound hT C E cut m pc' lv' st' h' hk'
/-- less may be known of the locals -/
def leL : List (Option zV) → List (Option zV) → Prop
  | [], _ => True
  | none :: r, [] => leL r []
  | none :: r, _ :: r' => leL r r'
  | some v :: r, some v' :: r' => v = v' ∧ leL r r'
  | some _ :: _, _ => False
theorem leL_get : ∀ (a b : List (Option zV)) (i : Nat) (v : zV), leL a b → a[i]? = some (some v) → b[i]? = some (some v)
  | [], _, i, v, _, h => by simp at h
  | none :: r, [], 0, v, _, h => by simp at h
  | none :: r, [], i + 1, v, hl, h => by
    have := leL_get r [] i v hl (by simpa using h)
    simp at this
  | none :: r, x :: r', 0, v, _, h => by simp at h
  | none :: r, x :: r', i + 1, v, hl, h => by simpa using leL_get r r' i v hl (by simpa using h)
  | some u :: r, some u' :: r', 0, v, hl, h => by
    have := hl.1
    subst this
    simpa using h
  | some u :: r, some u' :: r', i + 1, v, hl, h => by simpa using leL_get r r' i v hl.2 (by simpa using h)
  | some u :: r, none :: r', i, v, hl, h => hl.elim
  | some u :: r, [], i, v, hl, h => hl.elim
theorem zJ_le {X : zX} {pc : Nat} {a b : List (Option zV)} {st st' : List zV} {h h' : zH} (hj : zJ X pc a st h) (hl : leL a b) (hs : st = st') (hh : h = h') : zJ X pc b st' h' := by
  subst hs
  subst hh
  intro H locs ls hP hD hS hx
  exact hj H locs ls hP hD hS ⟨hx.1, hx.2.1, fun i v hv => hx.2.2 i v (leL_get a b i v hl hv)⟩
theorem zC_mono {d : Nat} {vs : List zV} {h : zH} {Q Q' : zQ} (hC : zC d k vs h Q) (hq : ∀ o g, Q o g → Q' o g) : zC d k vs h Q' := by
  intro l D T A
  refine MetFree.mono (hC l D T A) (fun a s h => h) (fun _ _ _ _ _ h => h) (fun a s o t _ h9 => ⟨?_, h9.2⟩)
  have h8 := h9.1
  revert h8
  generalize k.2.2.2 = ret
  intro h8
  rcases ret with _ | ty
  · obtain ⟨⟨u, e1, e2, e3⟩, e4⟩ := h8
    exact ⟨⟨u, e1, hq _ _ e2, e3⟩, e4⟩
  · have fini : va_Qi (fun r (u : zH × Int) => r = i32 u.2 ∧ Q (some (sI u.2)) u.1) (fun u t => va_P D vwCl (wld T A u.1) t.heap) (frA A) a s o t → va_Qi (fun r (u : zH × Int) => r = i32 u.2 ∧ Q' (some (sI u.2)) u.1) (fun u t => va_P D vwCl (wld T A u.1) t.heap) (frA A) a s o t := by
      rintro ⟨⟨r, u, e1, e2, e3⟩, e4⟩
      exact ⟨⟨r, u, e1, ⟨e2.1, hq _ _ e2.2⟩, e3⟩, e4⟩
    cases ty with
    | long =>
      obtain ⟨⟨r, u, e1, e2, e3⟩, e4⟩ := h8
      exact ⟨⟨r, u, e1, hq _ _ e2, e3⟩, e4⟩
    | array ty =>
      obtain ⟨⟨u, a, e1, e2, e3⟩, e4⟩ := h8
      exact ⟨⟨u, a, e1, hq _ _ e2, e3⟩, e4⟩
    | _ => exact fini h8
end OPSC
