theorem kdI (ci s : Nat) (h : SHL.all (fun r => !(Nat.beq r.1 0 && Nat.beq r.2.1 ci) || (match r.2.2[s]? with
  | some q => Nat.beq q.1 0
  | none => false)) = true) : ∀ a c ks, SHP a = (0, c, ks) → c = ci → ∃ q, ks[s]? = some (0, q) := by
  intro a c ks e hc
  subst hc
  have hm : (0, c, ks) ∈ SHL := by
    unfold SHP at e
    rw [List.getD_eq_getElem?_getD] at e
    cases hq : SHL[a]? with
    | none => rw [hq] at e; cases e
    | some q => rw [hq] at e; cases e; exact List.mem_of_getElem? hq
  have := List.all_eq_true.mp h _ hm
  simp only [Nat.beq_refl, Bool.and_self, Bool.not_true, Bool.false_or] at this
  split at this
  · rename_i q hq
    exact ⟨q.2, by rw [hq, ← Nat.eq_of_beq_eq_true this]⟩
  · cases this
theorem kdL (ci s : Nat) (h : SHL.all (fun r => !(Nat.beq r.1 0 && Nat.beq r.2.1 ci) || (match r.2.2[s]? with
  | some q => Nat.beq q.1 1
  | none => false)) = true) : ∀ a c ks, SHP a = (0, c, ks) → c = ci → ∃ q, ks[s]? = some (1, q) := by
  intro a c ks e hc
  subst hc
  have hm : (0, c, ks) ∈ SHL := by
    unfold SHP at e
    rw [List.getD_eq_getElem?_getD] at e
    cases hq : SHL[a]? with
    | none => rw [hq] at e; cases e
    | some q => rw [hq] at e; cases e; exact List.mem_of_getElem? hq
  have := List.all_eq_true.mp h _ hm
  simp only [Nat.beq_refl, Bool.and_self, Bool.not_true, Bool.false_or] at this
  split at this
  · rename_i q hq
    exact ⟨q.2, by rw [hq, ← Nat.eq_of_beq_eq_true this]⟩
  · cases this
def k_X0_add : zM := (yX0_add, cX0_add, 2, some .int)
theorem de_X0_add : k_X0_add.1.cls = k_X0_add.1.cls ∧ k_X0_add.1.cls ≠ "java/lang/invoke/MethodHandle" ∧ k_X0_add.1.cls ≠ "java/lang/invoke/VarHandle" ∧ (parseMethodDescriptor k_X0_add.1.desc).map (fun d => d.parameters.length) = some 1 := ⟨rfl, by decide +kernel, by decide +kernel, by decide +kernel⟩
def k_X0_isOrUnder : zM := (yX0_isOrUnder, cX0_isOrUnder, 4, some .boolean)
theorem de_X0_isOrUnder : k_X0_isOrUnder.1.cls ≠ "java/lang/invoke/MethodHandle" ∧ k_X0_isOrUnder.1.cls ≠ "java/lang/invoke/VarHandle" ∧ (parseMethodDescriptor k_X0_isOrUnder.1.desc).map (fun d => d.parameters.length) = some 2 := ⟨by decide +kernel, by decide +kernel, by decide +kernel⟩
def k_X0_perform : zM := (yX0_perform, cX0_perform, 4, some .int)
theorem de_X0_perform : k_X0_perform.1.cls = k_X0_perform.1.cls ∧ k_X0_perform.1.cls ≠ "java/lang/invoke/MethodHandle" ∧ k_X0_perform.1.cls ≠ "java/lang/invoke/VarHandle" ∧ (parseMethodDescriptor k_X0_perform.1.desc).map (fun d => d.parameters.length) = some 3 := ⟨rfl, by decide +kernel, by decide +kernel, by decide +kernel⟩
def k_X0_own : zM := (yX0_own, cX0_own, 4, some .int)
theorem de_X0_own : k_X0_own.1.cls = k_X0_own.1.cls ∧ k_X0_own.1.cls ≠ "java/lang/invoke/MethodHandle" ∧ k_X0_own.1.cls ≠ "java/lang/invoke/VarHandle" ∧ (parseMethodDescriptor k_X0_own.1.desc).map (fun d => d.parameters.length) = some 3 := ⟨rfl, by decide +kernel, by decide +kernel, by decide +kernel⟩
def k_X0_from : zM := (yX0_from, cX0_from, 7, some .int)
theorem de_X0_from : k_X0_from.1.cls = k_X0_from.1.cls ∧ k_X0_from.1.cls ≠ "java/lang/invoke/MethodHandle" ∧ k_X0_from.1.cls ≠ "java/lang/invoke/VarHandle" ∧ (parseMethodDescriptor k_X0_from.1.desc).map (fun d => d.parameters.length) = some 4 := ⟨rfl, by decide +kernel, by decide +kernel, by decide +kernel⟩
def k_X0_note : zM := (yX0_note, cX0_note, 2, none)
theorem de_X0_note : k_X0_note.1.cls = k_X0_note.1.cls ∧ k_X0_note.1.cls ≠ "java/lang/invoke/MethodHandle" ∧ k_X0_note.1.cls ≠ "java/lang/invoke/VarHandle" ∧ (parseMethodDescriptor k_X0_note.1.desc).map (fun d => d.parameters.length) = some 1 := ⟨rfl, by decide +kernel, by decide +kernel, by decide +kernel⟩
def k_X0_run : zM := (yX0_run, cX0_run, 4, some .int)
theorem de_X0_run : k_X0_run.1.cls = k_X0_run.1.cls ∧ k_X0_run.1.cls ≠ "java/lang/invoke/MethodHandle" ∧ k_X0_run.1.cls ≠ "java/lang/invoke/VarHandle" ∧ (parseMethodDescriptor k_X0_run.1.desc).map (fun d => d.parameters.length) = some 3 := ⟨rfl, by decide +kernel, by decide +kernel, by decide +kernel⟩
def k_X1_tell : zM := (yX1_tell, cX1_tell, 6, some .int)
theorem de_X1_tell : k_X1_tell.1.cls = k_X1_tell.1.cls ∧ k_X1_tell.1.cls ≠ "java/lang/invoke/MethodHandle" ∧ k_X1_tell.1.cls ≠ "java/lang/invoke/VarHandle" ∧ (parseMethodDescriptor k_X1_tell.1.desc).map (fun d => d.parameters.length) = some 3 := ⟨rfl, by decide +kernel, by decide +kernel, by decide +kernel⟩
def k_X1_forgetOldest : zM := (yX1_forgetOldest, cX1_forgetOldest, 1, none)
theorem de_X1_forgetOldest : k_X1_forgetOldest.1.cls = k_X1_forgetOldest.1.cls ∧ k_X1_forgetOldest.1.cls ≠ "java/lang/invoke/MethodHandle" ∧ k_X1_forgetOldest.1.cls ≠ "java/lang/invoke/VarHandle" ∧ (parseMethodDescriptor k_X1_forgetOldest.1.desc).map (fun d => d.parameters.length) = some 0 := ⟨rfl, by decide +kernel, by decide +kernel, by decide +kernel⟩
def k_X1_back : zM := (yX1_back, cX1_back, 1, some .boolean)
theorem de_X1_back : k_X1_back.1.cls = k_X1_back.1.cls ∧ k_X1_back.1.cls ≠ "java/lang/invoke/MethodHandle" ∧ k_X1_back.1.cls ≠ "java/lang/invoke/VarHandle" ∧ (parseMethodDescriptor k_X1_back.1.desc).map (fun d => d.parameters.length) = some 0 := ⟨rfl, by decide +kernel, by decide +kernel, by decide +kernel⟩
def k_X1_again : zM := (yX1_again, cX1_again, 1, some .boolean)
theorem de_X1_again : k_X1_again.1.cls = k_X1_again.1.cls ∧ k_X1_again.1.cls ≠ "java/lang/invoke/MethodHandle" ∧ k_X1_again.1.cls ≠ "java/lang/invoke/VarHandle" ∧ (parseMethodDescriptor k_X1_again.1.desc).map (fun d => d.parameters.length) = some 0 := ⟨rfl, by decide +kernel, by decide +kernel, by decide +kernel⟩
def k_X2_addTide : zM := (yX2_addTide, cX2_addTide, 4, some .int)
theorem de_X2_addTide : k_X2_addTide.1.cls = k_X2_addTide.1.cls ∧ k_X2_addTide.1.cls ≠ "java/lang/invoke/MethodHandle" ∧ k_X2_addTide.1.cls ≠ "java/lang/invoke/VarHandle" ∧ (parseMethodDescriptor k_X2_addTide.1.desc).map (fun d => d.parameters.length) = some 3 := ⟨rfl, by decide +kernel, by decide +kernel, by decide +kernel⟩
def k_X2_addWind : zM := (yX2_addWind, cX2_addWind, 4, some .int)
theorem de_X2_addWind : k_X2_addWind.1.cls = k_X2_addWind.1.cls ∧ k_X2_addWind.1.cls ≠ "java/lang/invoke/MethodHandle" ∧ k_X2_addWind.1.cls ≠ "java/lang/invoke/VarHandle" ∧ (parseMethodDescriptor k_X2_addWind.1.desc).map (fun d => d.parameters.length) = some 3 := ⟨rfl, by decide +kernel, by decide +kernel, by decide +kernel⟩
def k_X2_addWay : zM := (yX2_addWay, cX2_addWay, 5, some .int)
theorem de_X2_addWay : k_X2_addWay.1.cls = k_X2_addWay.1.cls ∧ k_X2_addWay.1.cls ≠ "java/lang/invoke/MethodHandle" ∧ k_X2_addWay.1.cls ≠ "java/lang/invoke/VarHandle" ∧ (parseMethodDescriptor k_X2_addWay.1.desc).map (fun d => d.parameters.length) = some 4 := ⟨rfl, by decide +kernel, by decide +kernel, by decide +kernel⟩
def k_X2_allWinds : zM := (yX2_allWinds, cX2_allWinds, 1, some .int)
theorem de_X2_allWinds : k_X2_allWinds.1.cls = k_X2_allWinds.1.cls ∧ k_X2_allWinds.1.cls ≠ "java/lang/invoke/MethodHandle" ∧ k_X2_allWinds.1.cls ≠ "java/lang/invoke/VarHandle" ∧ (parseMethodDescriptor k_X2_allWinds.1.desc).map (fun d => d.parameters.length) = some 0 := ⟨rfl, by decide +kernel, by decide +kernel, by decide +kernel⟩
def k_X2_chanceOf : zM := (yX2_chanceOf, cX2_chanceOf, 4, some .int)
theorem de_X2_chanceOf : k_X2_chanceOf.1.cls = k_X2_chanceOf.1.cls ∧ k_X2_chanceOf.1.cls ≠ "java/lang/invoke/MethodHandle" ∧ k_X2_chanceOf.1.cls ≠ "java/lang/invoke/VarHandle" ∧ (parseMethodDescriptor k_X2_chanceOf.1.desc).map (fun d => d.parameters.length) = some 1 := ⟨rfl, by decide +kernel, by decide +kernel, by decide +kernel⟩
def k_X2_thousandths : zM := (yX2_thousandths, cX2_thousandths, 2, some .int)
theorem de_X2_thousandths : k_X2_thousandths.1.cls = k_X2_thousandths.1.cls ∧ k_X2_thousandths.1.cls ≠ "java/lang/invoke/MethodHandle" ∧ k_X2_thousandths.1.cls ≠ "java/lang/invoke/VarHandle" ∧ (parseMethodDescriptor k_X2_thousandths.1.desc).map (fun d => d.parameters.length) = some 1 := ⟨rfl, by decide +kernel, by decide +kernel, by decide +kernel⟩
def k_X2_taking : zM := (yX2_taking, cX2_taking, 4, some .int)
theorem de_X2_taking : k_X2_taking.1.cls = k_X2_taking.1.cls ∧ k_X2_taking.1.cls ≠ "java/lang/invoke/MethodHandle" ∧ k_X2_taking.1.cls ≠ "java/lang/invoke/VarHandle" ∧ (parseMethodDescriptor k_X2_taking.1.desc).map (fun d => d.parameters.length) = some 3 := ⟨rfl, by decide +kernel, by decide +kernel, by decide +kernel⟩
def k_X2_tideAt : zM := (yX2_tideAt, cX2_tideAt, 8, some .int)
theorem de_X2_tideAt : k_X2_tideAt.1.cls = k_X2_tideAt.1.cls ∧ k_X2_tideAt.1.cls ≠ "java/lang/invoke/MethodHandle" ∧ k_X2_tideAt.1.cls ≠ "java/lang/invoke/VarHandle" ∧ (parseMethodDescriptor k_X2_tideAt.1.desc).map (fun d => d.parameters.length) = some 2 := ⟨rfl, by decide +kernel, by decide +kernel, by decide +kernel⟩
def k_X2_seaAt : zM := (yX2_seaAt, cX2_seaAt, 5, some .int)
theorem de_X2_seaAt : k_X2_seaAt.1.cls = k_X2_seaAt.1.cls ∧ k_X2_seaAt.1.cls ≠ "java/lang/invoke/MethodHandle" ∧ k_X2_seaAt.1.cls ≠ "java/lang/invoke/VarHandle" ∧ (parseMethodDescriptor k_X2_seaAt.1.desc).map (fun d => d.parameters.length) = some 3 := ⟨rfl, by decide +kernel, by decide +kernel, by decide +kernel⟩
def k_X2_rowOf : zM := (yX2_rowOf, cX2_rowOf, 2, some (.array .int))
theorem de_X2_rowOf : k_X2_rowOf.1.cls = k_X2_rowOf.1.cls ∧ k_X2_rowOf.1.cls ≠ "java/lang/invoke/MethodHandle" ∧ k_X2_rowOf.1.cls ≠ "java/lang/invoke/VarHandle" ∧ (parseMethodDescriptor k_X2_rowOf.1.desc).map (fun d => d.parameters.length) = some 1 := ⟨rfl, by decide +kernel, by decide +kernel, by decide +kernel⟩
def k_X3_add : zM := (yX3_add, cX3_add, 2, some .boolean)
theorem de_X3_add : k_X3_add.1.cls = k_X3_add.1.cls ∧ k_X3_add.1.cls ≠ "java/lang/invoke/MethodHandle" ∧ k_X3_add.1.cls ≠ "java/lang/invoke/VarHandle" ∧ (parseMethodDescriptor k_X3_add.1.desc).map (fun d => d.parameters.length) = some 1 := ⟨rfl, by decide +kernel, by decide +kernel, by decide +kernel⟩
def k_X3_walk : zM := (yX3_walk, cX3_walk, 5, some .int)
theorem de_X3_walk : k_X3_walk.1.cls = k_X3_walk.1.cls ∧ k_X3_walk.1.cls ≠ "java/lang/invoke/MethodHandle" ∧ k_X3_walk.1.cls ≠ "java/lang/invoke/VarHandle" ∧ (parseMethodDescriptor k_X3_walk.1.desc).map (fun d => d.parameters.length) = some 2 := ⟨rfl, by decide +kernel, by decide +kernel, by decide +kernel⟩
def k_X3_stay : zM := (yX3_stay, cX3_stay, 2, some .boolean)
theorem de_X3_stay : k_X3_stay.1.cls = k_X3_stay.1.cls ∧ k_X3_stay.1.cls ≠ "java/lang/invoke/MethodHandle" ∧ k_X3_stay.1.cls ≠ "java/lang/invoke/VarHandle" ∧ (parseMethodDescriptor k_X3_stay.1.desc).map (fun d => d.parameters.length) = some 1 := ⟨rfl, by decide +kernel, by decide +kernel, by decide +kernel⟩
def k_X3_follow : zM := (yX3_follow, cX3_follow, 3, some .boolean)
theorem de_X3_follow : k_X3_follow.1.cls = k_X3_follow.1.cls ∧ k_X3_follow.1.cls ≠ "java/lang/invoke/MethodHandle" ∧ k_X3_follow.1.cls ≠ "java/lang/invoke/VarHandle" ∧ (parseMethodDescriptor k_X3_follow.1.desc).map (fun d => d.parameters.length) = some 2 := ⟨rfl, by decide +kernel, by decide +kernel, by decide +kernel⟩
def k_X3_leadsOn : zM := (yX3_leadsOn, cX3_leadsOn, 2, some .boolean)
theorem de_X3_leadsOn : k_X3_leadsOn.1.cls = k_X3_leadsOn.1.cls ∧ k_X3_leadsOn.1.cls ≠ "java/lang/invoke/MethodHandle" ∧ k_X3_leadsOn.1.cls ≠ "java/lang/invoke/VarHandle" ∧ (parseMethodDescriptor k_X3_leadsOn.1.desc).map (fun d => d.parameters.length) = some 1 := ⟨rfl, by decide +kernel, by decide +kernel, by decide +kernel⟩
def k_X3_wayGoes : zM := (yX3_wayGoes, cX3_wayGoes, 5, some .boolean)
theorem de_X3_wayGoes : k_X3_wayGoes.1.cls = k_X3_wayGoes.1.cls ∧ k_X3_wayGoes.1.cls ≠ "java/lang/invoke/MethodHandle" ∧ k_X3_wayGoes.1.cls ≠ "java/lang/invoke/VarHandle" ∧ (parseMethodDescriptor k_X3_wayGoes.1.desc).map (fun d => d.parameters.length) = some 4 := ⟨rfl, by decide +kernel, by decide +kernel, by decide +kernel⟩
def k_X3_shutIn : zM := (yX3_shutIn, cX3_shutIn, 4, some .int)
theorem de_X3_shutIn : k_X3_shutIn.1.cls = k_X3_shutIn.1.cls ∧ k_X3_shutIn.1.cls ≠ "java/lang/invoke/MethodHandle" ∧ k_X3_shutIn.1.cls ≠ "java/lang/invoke/VarHandle" ∧ (parseMethodDescriptor k_X3_shutIn.1.desc).map (fun d => d.parameters.length) = some 1 := ⟨rfl, by decide +kernel, by decide +kernel, by decide +kernel⟩
def k_X4_rise : zM := (yX4_rise, cX4_rise, 4, none)
theorem de_X4_rise : k_X4_rise.1.cls = k_X4_rise.1.cls ∧ k_X4_rise.1.cls ≠ "java/lang/invoke/MethodHandle" ∧ k_X4_rise.1.cls ≠ "java/lang/invoke/VarHandle" ∧ (parseMethodDescriptor k_X4_rise.1.desc).map (fun d => d.parameters.length) = some 2 := ⟨rfl, by decide +kernel, by decide +kernel, by decide +kernel⟩
def k_X4_raise : zM := (yX4_raise, cX4_raise, 5, none)
theorem de_X4_raise : k_X4_raise.1.cls = k_X4_raise.1.cls ∧ k_X4_raise.1.cls ≠ "java/lang/invoke/MethodHandle" ∧ k_X4_raise.1.cls ≠ "java/lang/invoke/VarHandle" ∧ (parseMethodDescriptor k_X4_raise.1.desc).map (fun d => d.parameters.length) = some 2 := ⟨rfl, by decide +kernel, by decide +kernel, by decide +kernel⟩
def k_X4_firstAbove : zM := (yX4_firstAbove, cX4_firstAbove, 4, some .int)
theorem de_X4_firstAbove : k_X4_firstAbove.1.cls = k_X4_firstAbove.1.cls ∧ k_X4_firstAbove.1.cls ≠ "java/lang/invoke/MethodHandle" ∧ k_X4_firstAbove.1.cls ≠ "java/lang/invoke/VarHandle" ∧ (parseMethodDescriptor k_X4_firstAbove.1.desc).map (fun d => d.parameters.length) = some 2 := ⟨rfl, by decide +kernel, by decide +kernel, by decide +kernel⟩
def k_X5_prepare : zM := (yX5_prepare, cX5_prepare, 5, none)
theorem de_X5_prepare : k_X5_prepare.1.cls = k_X5_prepare.1.cls ∧ k_X5_prepare.1.cls ≠ "java/lang/invoke/MethodHandle" ∧ k_X5_prepare.1.cls ≠ "java/lang/invoke/VarHandle" ∧ (parseMethodDescriptor k_X5_prepare.1.desc).map (fun d => d.parameters.length) = some 2 := ⟨rfl, by decide +kernel, by decide +kernel, by decide +kernel⟩
def k_X5_barWaiting : zM := (yX5_barWaiting, cX5_barWaiting, 2, none)
theorem de_X5_barWaiting : k_X5_barWaiting.1.cls = k_X5_barWaiting.1.cls ∧ k_X5_barWaiting.1.cls ≠ "java/lang/invoke/MethodHandle" ∧ k_X5_barWaiting.1.cls ≠ "java/lang/invoke/VarHandle" ∧ (parseMethodDescriptor k_X5_barWaiting.1.desc).map (fun d => d.parameters.length) = some 1 := ⟨rfl, by decide +kernel, by decide +kernel, by decide +kernel⟩
def k_X5_soonest : zM := (yX5_soonest, cX5_soonest, 4, some .int)
theorem de_X5_soonest : k_X5_soonest.1.cls = k_X5_soonest.1.cls ∧ k_X5_soonest.1.cls ≠ "java/lang/invoke/MethodHandle" ∧ k_X5_soonest.1.cls ≠ "java/lang/invoke/VarHandle" ∧ (parseMethodDescriptor k_X5_soonest.1.desc).map (fun d => d.parameters.length) = some 3 := ⟨rfl, by decide +kernel, by decide +kernel, by decide +kernel⟩
def k_X5_isThere : zM := (yX5_isThere, cX5_isThere, 4, some .boolean)
theorem de_X5_isThere : k_X5_isThere.1.cls = k_X5_isThere.1.cls ∧ k_X5_isThere.1.cls ≠ "java/lang/invoke/MethodHandle" ∧ k_X5_isThere.1.cls ≠ "java/lang/invoke/VarHandle" ∧ (parseMethodDescriptor k_X5_isThere.1.desc).map (fun d => d.parameters.length) = some 2 := ⟨rfl, by decide +kernel, by decide +kernel, by decide +kernel⟩
def k_X5_meeting : zM := (yX5_meeting, cX5_meeting, 7, some .int)
theorem de_X5_meeting : k_X5_meeting.1.cls = k_X5_meeting.1.cls ∧ k_X5_meeting.1.cls ≠ "java/lang/invoke/MethodHandle" ∧ k_X5_meeting.1.cls ≠ "java/lang/invoke/VarHandle" ∧ (parseMethodDescriptor k_X5_meeting.1.desc).map (fun d => d.parameters.length) = some 2 := ⟨rfl, by decide +kernel, by decide +kernel, by decide +kernel⟩
def k_X5_spread : zM := (yX5_spread, cX5_spread, 10, some .int)
theorem de_X5_spread : k_X5_spread.1.cls = k_X5_spread.1.cls ∧ k_X5_spread.1.cls ≠ "java/lang/invoke/MethodHandle" ∧ k_X5_spread.1.cls ≠ "java/lang/invoke/VarHandle" ∧ (parseMethodDescriptor k_X5_spread.1.desc).map (fun d => d.parameters.length) = some 4 := ⟨rfl, by decide +kernel, by decide +kernel, by decide +kernel⟩
def k_X5_waiting : zM := (yX5_waiting, cX5_waiting, 6, some .long)
theorem de_X5_waiting : k_X5_waiting.1.cls = k_X5_waiting.1.cls ∧ k_X5_waiting.1.cls ≠ "java/lang/invoke/MethodHandle" ∧ k_X5_waiting.1.cls ≠ "java/lang/invoke/VarHandle" ∧ (parseMethodDescriptor k_X5_waiting.1.desc).map (fun d => d.parameters.length) = some 1 := ⟨rfl, by decide +kernel, by decide +kernel, by decide +kernel⟩
def k_X5_leave : zM := (yX5_leave, cX5_leave, 11, none)
theorem de_X5_leave : k_X5_leave.1.cls = k_X5_leave.1.cls ∧ k_X5_leave.1.cls ≠ "java/lang/invoke/MethodHandle" ∧ k_X5_leave.1.cls ≠ "java/lang/invoke/VarHandle" ∧ (parseMethodDescriptor k_X5_leave.1.desc).map (fun d => d.parameters.length) = some 3 := ⟨rfl, by decide +kernel, by decide +kernel, by decide +kernel⟩
def k_X5_latest : zM := (yX5_latest, cX5_latest, 7, some .int)
theorem de_X5_latest : k_X5_latest.1.cls = k_X5_latest.1.cls ∧ k_X5_latest.1.cls ≠ "java/lang/invoke/MethodHandle" ∧ k_X5_latest.1.cls ≠ "java/lang/invoke/VarHandle" ∧ (parseMethodDescriptor k_X5_latest.1.desc).map (fun d => d.parameters.length) = some 2 := ⟨rfl, by decide +kernel, by decide +kernel, by decide +kernel⟩
def k_X5_goodToLeave : zM := (yX5_goodToLeave, cX5_goodToLeave, 11, some .long)
theorem de_X5_goodToLeave : k_X5_goodToLeave.1.cls = k_X5_goodToLeave.1.cls ∧ k_X5_goodToLeave.1.cls ≠ "java/lang/invoke/MethodHandle" ∧ k_X5_goodToLeave.1.cls ≠ "java/lang/invoke/VarHandle" ∧ (parseMethodDescriptor k_X5_goodToLeave.1.desc).map (fun d => d.parameters.length) = some 2 := ⟨rfl, by decide +kernel, by decide +kernel, by decide +kernel⟩
def k_X6_holdBody : zM := (yX6_holdBody, cX6_holdBody, 2, none)
theorem de_X6_holdBody : k_X6_holdBody.1.cls = k_X6_holdBody.1.cls ∧ k_X6_holdBody.1.cls ≠ "java/lang/invoke/MethodHandle" ∧ k_X6_holdBody.1.cls ≠ "java/lang/invoke/VarHandle" ∧ (parseMethodDescriptor k_X6_holdBody.1.desc).map (fun d => d.parameters.length) = some 1 := ⟨rfl, by decide +kernel, by decide +kernel, by decide +kernel⟩
def k_X6_holdRow : zM := (yX6_holdRow, cX6_holdRow, 3, none)
theorem de_X6_holdRow : k_X6_holdRow.1.cls = k_X6_holdRow.1.cls ∧ k_X6_holdRow.1.cls ≠ "java/lang/invoke/MethodHandle" ∧ k_X6_holdRow.1.cls ≠ "java/lang/invoke/VarHandle" ∧ (parseMethodDescriptor k_X6_holdRow.1.desc).map (fun d => d.parameters.length) = some 2 := ⟨rfl, by decide +kernel, by decide +kernel, by decide +kernel⟩
def k_X6_has : zM := (yX6_has, cX6_has, 2, some .boolean)
theorem de_X6_has : k_X6_has.1.cls = k_X6_has.1.cls ∧ k_X6_has.1.cls ≠ "java/lang/invoke/MethodHandle" ∧ k_X6_has.1.cls ≠ "java/lang/invoke/VarHandle" ∧ (parseMethodDescriptor k_X6_has.1.desc).map (fun d => d.parameters.length) = some 1 := ⟨rfl, by decide +kernel, by decide +kernel, by decide +kernel⟩
def k_X6_hasRun : zM := (yX6_hasRun, cX6_hasRun, 3, some .boolean)
theorem de_X6_hasRun : k_X6_hasRun.1.cls = k_X6_hasRun.1.cls ∧ k_X6_hasRun.1.cls ≠ "java/lang/invoke/MethodHandle" ∧ k_X6_hasRun.1.cls ≠ "java/lang/invoke/VarHandle" ∧ (parseMethodDescriptor k_X6_hasRun.1.desc).map (fun d => d.parameters.length) = some 2 := ⟨rfl, by decide +kernel, by decide +kernel, by decide +kernel⟩
def k_X6_kept : zM := (yX6_kept, cX6_kept, 3, some .long)
theorem de_X6_kept : k_X6_kept.1.cls = k_X6_kept.1.cls ∧ k_X6_kept.1.cls ≠ "java/lang/invoke/MethodHandle" ∧ k_X6_kept.1.cls ≠ "java/lang/invoke/VarHandle" ∧ (parseMethodDescriptor k_X6_kept.1.desc).map (fun d => d.parameters.length) = some 1 := ⟨rfl, by decide +kernel, by decide +kernel, by decide +kernel⟩
def k_X7_add : zM := (yX7_add, cX7_add, 4, some .boolean)
theorem de_X7_add : k_X7_add.1.cls = k_X7_add.1.cls ∧ k_X7_add.1.cls ≠ "java/lang/invoke/MethodHandle" ∧ k_X7_add.1.cls ≠ "java/lang/invoke/VarHandle" ∧ (parseMethodDescriptor k_X7_add.1.desc).map (fun d => d.parameters.length) = some 2 := ⟨rfl, by decide +kernel, by decide +kernel, by decide +kernel⟩
def k_X7_read : zM := (yX7_read, cX7_read, 3, some .int)
theorem de_X7_read : k_X7_read.1.cls = k_X7_read.1.cls ∧ k_X7_read.1.cls ≠ "java/lang/invoke/MethodHandle" ∧ k_X7_read.1.cls ≠ "java/lang/invoke/VarHandle" ∧ (parseMethodDescriptor k_X7_read.1.desc).map (fun d => d.parameters.length) = some 0 := ⟨rfl, by decide +kernel, by decide +kernel, by decide +kernel⟩
def k_X7_readMinute : zM := (yX7_readMinute, cX7_readMinute, 4, some .int)
theorem de_X7_readMinute : k_X7_readMinute.1.cls = k_X7_readMinute.1.cls ∧ k_X7_readMinute.1.cls ≠ "java/lang/invoke/MethodHandle" ∧ k_X7_readMinute.1.cls ≠ "java/lang/invoke/VarHandle" ∧ (parseMethodDescriptor k_X7_readMinute.1.desc).map (fun d => d.parameters.length) = some 1 := ⟨rfl, by decide +kernel, by decide +kernel, by decide +kernel⟩
def k_X7_readHeight : zM := (yX7_readHeight, cX7_readHeight, 2, some .int)
theorem de_X7_readHeight : k_X7_readHeight.1.cls = k_X7_readHeight.1.cls ∧ k_X7_readHeight.1.cls ≠ "java/lang/invoke/MethodHandle" ∧ k_X7_readHeight.1.cls ≠ "java/lang/invoke/VarHandle" ∧ (parseMethodDescriptor k_X7_readHeight.1.desc).map (fun d => d.parameters.length) = some 0 := ⟨rfl, by decide +kernel, by decide +kernel, by decide +kernel⟩
def k_X7_readNumber : zM := (yX7_readNumber, cX7_readNumber, 4, some .int)
theorem de_X7_readNumber : k_X7_readNumber.1.cls = k_X7_readNumber.1.cls ∧ k_X7_readNumber.1.cls ≠ "java/lang/invoke/MethodHandle" ∧ k_X7_readNumber.1.cls ≠ "java/lang/invoke/VarHandle" ∧ (parseMethodDescriptor k_X7_readNumber.1.desc).map (fun d => d.parameters.length) = some 1 := ⟨rfl, by decide +kernel, by decide +kernel, by decide +kernel⟩
def k_X7_digitIsNext : zM := (yX7_digitIsNext, cX7_digitIsNext, 1, some .boolean)
theorem de_X7_digitIsNext : k_X7_digitIsNext.1.cls = k_X7_digitIsNext.1.cls ∧ k_X7_digitIsNext.1.cls ≠ "java/lang/invoke/MethodHandle" ∧ k_X7_digitIsNext.1.cls ≠ "java/lang/invoke/VarHandle" ∧ (parseMethodDescriptor k_X7_digitIsNext.1.desc).map (fun d => d.parameters.length) = some 0 := ⟨rfl, by decide +kernel, by decide +kernel, by decide +kernel⟩
def k_X8_feed : zM := (yX8_feed, cX8_feed, 3, some .int)
theorem de_X8_feed : k_X8_feed.1.cls = k_X8_feed.1.cls ∧ k_X8_feed.1.cls ≠ "java/lang/invoke/MethodHandle" ∧ k_X8_feed.1.cls ≠ "java/lang/invoke/VarHandle" ∧ (parseMethodDescriptor k_X8_feed.1.desc).map (fun d => d.parameters.length) = some 2 := ⟨rfl, by decide +kernel, by decide +kernel, by decide +kernel⟩
def k_X8_tide : zM := (yX8_tide, cX8_tide, 2, some .int)
theorem de_X8_tide : k_X8_tide.1.cls = k_X8_tide.1.cls ∧ k_X8_tide.1.cls ≠ "java/lang/invoke/MethodHandle" ∧ k_X8_tide.1.cls ≠ "java/lang/invoke/VarHandle" ∧ (parseMethodDescriptor k_X8_tide.1.desc).map (fun d => d.parameters.length) = some 0 := ⟨rfl, by decide +kernel, by decide +kernel, by decide +kernel⟩
def k_X8_wind : zM := (yX8_wind, cX8_wind, 4, some .int)
theorem de_X8_wind : k_X8_wind.1.cls = k_X8_wind.1.cls ∧ k_X8_wind.1.cls ≠ "java/lang/invoke/MethodHandle" ∧ k_X8_wind.1.cls ≠ "java/lang/invoke/VarHandle" ∧ (parseMethodDescriptor k_X8_wind.1.desc).map (fun d => d.parameters.length) = some 3 := ⟨rfl, by decide +kernel, by decide +kernel, by decide +kernel⟩
def k_X8_sea : zM := (yX8_sea, cX8_sea, 4, some .int)
theorem de_X8_sea : k_X8_sea.1.cls = k_X8_sea.1.cls ∧ k_X8_sea.1.cls ≠ "java/lang/invoke/MethodHandle" ∧ k_X8_sea.1.cls ≠ "java/lang/invoke/VarHandle" ∧ (parseMethodDescriptor k_X8_sea.1.desc).map (fun d => d.parameters.length) = some 3 := ⟨rfl, by decide +kernel, by decide +kernel, by decide +kernel⟩
def k_X8_place : zM := (yX8_place, cX8_place, 2, some .int)
theorem de_X8_place : k_X8_place.1.cls = k_X8_place.1.cls ∧ k_X8_place.1.cls ≠ "java/lang/invoke/MethodHandle" ∧ k_X8_place.1.cls ≠ "java/lang/invoke/VarHandle" ∧ (parseMethodDescriptor k_X8_place.1.desc).map (fun d => d.parameters.length) = some 1 := ⟨rfl, by decide +kernel, by decide +kernel, by decide +kernel⟩
def k_X8_way : zM := (yX8_way, cX8_way, 3, some .int)
theorem de_X8_way : k_X8_way.1.cls = k_X8_way.1.cls ∧ k_X8_way.1.cls ≠ "java/lang/invoke/MethodHandle" ∧ k_X8_way.1.cls ≠ "java/lang/invoke/VarHandle" ∧ (parseMethodDescriptor k_X8_way.1.desc).map (fun d => d.parameters.length) = some 2 := ⟨rfl, by decide +kernel, by decide +kernel, by decide +kernel⟩
def k_X8_safe : zM := (yX8_safe, cX8_safe, 3, some .int)
theorem de_X8_safe : k_X8_safe.1.cls = k_X8_safe.1.cls ∧ k_X8_safe.1.cls ≠ "java/lang/invoke/MethodHandle" ∧ k_X8_safe.1.cls ≠ "java/lang/invoke/VarHandle" ∧ (parseMethodDescriptor k_X8_safe.1.desc).map (fun d => d.parameters.length) = some 2 := ⟨rfl, by decide +kernel, by decide +kernel, by decide +kernel⟩
def k_X8_alter : zM := (yX8_alter, cX8_alter, 4, some .int)
theorem de_X8_alter : k_X8_alter.1.cls = k_X8_alter.1.cls ∧ k_X8_alter.1.cls ≠ "java/lang/invoke/MethodHandle" ∧ k_X8_alter.1.cls ≠ "java/lang/invoke/VarHandle" ∧ (parseMethodDescriptor k_X8_alter.1.desc).map (fun d => d.parameters.length) = some 3 := ⟨rfl, by decide +kernel, by decide +kernel, by decide +kernel⟩
def k_X8_sort : zM := (yX8_sort, cX8_sort, 3, some .int)
theorem de_X8_sort : k_X8_sort.1.cls = k_X8_sort.1.cls ∧ k_X8_sort.1.cls ≠ "java/lang/invoke/MethodHandle" ∧ k_X8_sort.1.cls ≠ "java/lang/invoke/VarHandle" ∧ (parseMethodDescriptor k_X8_sort.1.desc).map (fun d => d.parameters.length) = some 2 := ⟨rfl, by decide +kernel, by decide +kernel, by decide +kernel⟩
def k_X8_light : zM := (yX8_light, cX8_light, 4, some .int)
theorem de_X8_light : k_X8_light.1.cls = k_X8_light.1.cls ∧ k_X8_light.1.cls ≠ "java/lang/invoke/MethodHandle" ∧ k_X8_light.1.cls ≠ "java/lang/invoke/VarHandle" ∧ (parseMethodDescriptor k_X8_light.1.desc).map (fun d => d.parameters.length) = some 2 := ⟨rfl, by decide +kernel, by decide +kernel, by decide +kernel⟩
def k_X8_takes : zM := (yX8_takes, cX8_takes, 4, some .int)
theorem de_X8_takes : k_X8_takes.1.cls = k_X8_takes.1.cls ∧ k_X8_takes.1.cls ≠ "java/lang/invoke/MethodHandle" ∧ k_X8_takes.1.cls ≠ "java/lang/invoke/VarHandle" ∧ (parseMethodDescriptor k_X8_takes.1.desc).map (fun d => d.parameters.length) = some 3 := ⟨rfl, by decide +kernel, by decide +kernel, by decide +kernel⟩
def k_X8_open : zM := (yX8_open, cX8_open, 9, some .int)
theorem de_X8_open : k_X8_open.1.cls = k_X8_open.1.cls ∧ k_X8_open.1.cls ≠ "java/lang/invoke/MethodHandle" ∧ k_X8_open.1.cls ≠ "java/lang/invoke/VarHandle" ∧ (parseMethodDescriptor k_X8_open.1.desc).map (fun d => d.parameters.length) = some 4 := ⟨rfl, by decide +kernel, by decide +kernel, by decide +kernel⟩
def k_X8_soon : zM := (yX8_soon, cX8_soon, 5, some .int)
theorem de_X8_soon : k_X8_soon.1.cls = k_X8_soon.1.cls ∧ k_X8_soon.1.cls ≠ "java/lang/invoke/MethodHandle" ∧ k_X8_soon.1.cls ≠ "java/lang/invoke/VarHandle" ∧ (parseMethodDescriptor k_X8_soon.1.desc).map (fun d => d.parameters.length) = some 4 := ⟨rfl, by decide +kernel, by decide +kernel, by decide +kernel⟩
def k_X8_last : zM := (yX8_last, cX8_last, 4, some .int)
theorem de_X8_last : k_X8_last.1.cls = k_X8_last.1.cls ∧ k_X8_last.1.cls ≠ "java/lang/invoke/MethodHandle" ∧ k_X8_last.1.cls ≠ "java/lang/invoke/VarHandle" ∧ (parseMethodDescriptor k_X8_last.1.desc).map (fun d => d.parameters.length) = some 3 := ⟨rfl, by decide +kernel, by decide +kernel, by decide +kernel⟩
def k_X8_best : zM := (yX8_best, cX8_best, 6, some .int)
theorem de_X8_best : k_X8_best.1.cls = k_X8_best.1.cls ∧ k_X8_best.1.cls ≠ "java/lang/invoke/MethodHandle" ∧ k_X8_best.1.cls ≠ "java/lang/invoke/VarHandle" ∧ (parseMethodDescriptor k_X8_best.1.desc).map (fun d => d.parameters.length) = some 4 := ⟨rfl, by decide +kernel, by decide +kernel, by decide +kernel⟩
def k_X8_days : zM := (yX8_days, cX8_days, 9, some .int)
theorem de_X8_days : k_X8_days.1.cls = k_X8_days.1.cls ∧ k_X8_days.1.cls ≠ "java/lang/invoke/MethodHandle" ∧ k_X8_days.1.cls ≠ "java/lang/invoke/VarHandle" ∧ (parseMethodDescriptor k_X8_days.1.desc).map (fun d => d.parameters.length) = some 3 := ⟨rfl, by decide +kernel, by decide +kernel, by decide +kernel⟩
def k_X8_two : zM := (yX8_two, cX8_two, 7, some .int)
theorem de_X8_two : k_X8_two.1.cls = k_X8_two.1.cls ∧ k_X8_two.1.cls ≠ "java/lang/invoke/MethodHandle" ∧ k_X8_two.1.cls ≠ "java/lang/invoke/VarHandle" ∧ (parseMethodDescriptor k_X8_two.1.desc).map (fun d => d.parameters.length) = some 5 := ⟨rfl, by decide +kernel, by decide +kernel, by decide +kernel⟩
def k_X8_worth : zM := (yX8_worth, cX8_worth, 9, some .int)
theorem de_X8_worth : k_X8_worth.1.cls = k_X8_worth.1.cls ∧ k_X8_worth.1.cls ≠ "java/lang/invoke/MethodHandle" ∧ k_X8_worth.1.cls ≠ "java/lang/invoke/VarHandle" ∧ (parseMethodDescriptor k_X8_worth.1.desc).map (fun d => d.parameters.length) = some 4 := ⟨rfl, by decide +kernel, by decide +kernel, by decide +kernel⟩
def k_X8_higher : zM := (yX8_higher, cX8_higher, 9, some .int)
theorem de_X8_higher : k_X8_higher.1.cls = k_X8_higher.1.cls ∧ k_X8_higher.1.cls ≠ "java/lang/invoke/MethodHandle" ∧ k_X8_higher.1.cls ≠ "java/lang/invoke/VarHandle" ∧ (parseMethodDescriptor k_X8_higher.1.desc).map (fun d => d.parameters.length) = some 4 := ⟨rfl, by decide +kernel, by decide +kernel, by decide +kernel⟩
def k_X8_must : zM := (yX8_must, cX8_must, 6, some .int)
theorem de_X8_must : k_X8_must.1.cls = k_X8_must.1.cls ∧ k_X8_must.1.cls ≠ "java/lang/invoke/MethodHandle" ∧ k_X8_must.1.cls ≠ "java/lang/invoke/VarHandle" ∧ (parseMethodDescriptor k_X8_must.1.desc).map (fun d => d.parameters.length) = some 3 := ⟨rfl, by decide +kernel, by decide +kernel, by decide +kernel⟩
def k_X8_move : zM := (yX8_move, cX8_move, 2, some .int)
theorem de_X8_move : k_X8_move.1.cls = k_X8_move.1.cls ∧ k_X8_move.1.cls ≠ "java/lang/invoke/MethodHandle" ∧ k_X8_move.1.cls ≠ "java/lang/invoke/VarHandle" ∧ (parseMethodDescriptor k_X8_move.1.desc).map (fun d => d.parameters.length) = some 1 := ⟨rfl, by decide +kernel, by decide +kernel, by decide +kernel⟩
def k_X8_moves : zM := (yX8_moves, cX8_moves, 6, some .int)
theorem de_X8_moves : k_X8_moves.1.cls = k_X8_moves.1.cls ∧ k_X8_moves.1.cls ≠ "java/lang/invoke/MethodHandle" ∧ k_X8_moves.1.cls ≠ "java/lang/invoke/VarHandle" ∧ (parseMethodDescriptor k_X8_moves.1.desc).map (fun d => d.parameters.length) = some 3 := ⟨rfl, by decide +kernel, by decide +kernel, by decide +kernel⟩
def k_X8_drop : zM := (yX8_drop, cX8_drop, 2, some .int)
theorem de_X8_drop : k_X8_drop.1.cls = k_X8_drop.1.cls ∧ k_X8_drop.1.cls ≠ "java/lang/invoke/MethodHandle" ∧ k_X8_drop.1.cls ≠ "java/lang/invoke/VarHandle" ∧ (parseMethodDescriptor k_X8_drop.1.desc).map (fun d => d.parameters.length) = some 0 := ⟨rfl, by decide +kernel, by decide +kernel, by decide +kernel⟩
def k_X8_judge : zM := (yX8_judge, cX8_judge, 6, some .int)
theorem de_X8_judge : k_X8_judge.1.cls = k_X8_judge.1.cls ∧ k_X8_judge.1.cls ≠ "java/lang/invoke/MethodHandle" ∧ k_X8_judge.1.cls ≠ "java/lang/invoke/VarHandle" ∧ (parseMethodDescriptor k_X8_judge.1.desc).map (fun d => d.parameters.length) = some 4 := ⟨rfl, by decide +kernel, by decide +kernel, by decide +kernel⟩
def k_X8_wet : zM := (yX8_wet, cX8_wet, 4, some .int)
theorem de_X8_wet : k_X8_wet.1.cls = k_X8_wet.1.cls ∧ k_X8_wet.1.cls ≠ "java/lang/invoke/MethodHandle" ∧ k_X8_wet.1.cls ≠ "java/lang/invoke/VarHandle" ∧ (parseMethodDescriptor k_X8_wet.1.desc).map (fun d => d.parameters.length) = some 3 := ⟨rfl, by decide +kernel, by decide +kernel, by decide +kernel⟩
def k_X8_chance : zM := (yX8_chance, cX8_chance, 5, some .int)
theorem de_X8_chance : k_X8_chance.1.cls = k_X8_chance.1.cls ∧ k_X8_chance.1.cls ≠ "java/lang/invoke/MethodHandle" ∧ k_X8_chance.1.cls ≠ "java/lang/invoke/VarHandle" ∧ (parseMethodDescriptor k_X8_chance.1.desc).map (fun d => d.parameters.length) = some 2 := ⟨rfl, by decide +kernel, by decide +kernel, by decide +kernel⟩
def k_X8_mark : zM := (yX8_mark, cX8_mark, 2, some .int)
theorem de_X8_mark : k_X8_mark.1.cls = k_X8_mark.1.cls ∧ k_X8_mark.1.cls ≠ "java/lang/invoke/MethodHandle" ∧ k_X8_mark.1.cls ≠ "java/lang/invoke/VarHandle" ∧ (parseMethodDescriptor k_X8_mark.1.desc).map (fun d => d.parameters.length) = some 1 := ⟨rfl, by decide +kernel, by decide +kernel, by decide +kernel⟩
def k_X8_old : zM := (yX8_old, cX8_old, 4, some .int)
theorem de_X8_old : k_X8_old.1.cls = k_X8_old.1.cls ∧ k_X8_old.1.cls ≠ "java/lang/invoke/MethodHandle" ∧ k_X8_old.1.cls ≠ "java/lang/invoke/VarHandle" ∧ (parseMethodDescriptor k_X8_old.1.desc).map (fun d => d.parameters.length) = some 1 := ⟨rfl, by decide +kernel, by decide +kernel, by decide +kernel⟩
def k_X8_unmark : zM := (yX8_unmark, cX8_unmark, 2, some .int)
theorem de_X8_unmark : k_X8_unmark.1.cls = k_X8_unmark.1.cls ∧ k_X8_unmark.1.cls ≠ "java/lang/invoke/MethodHandle" ∧ k_X8_unmark.1.cls ≠ "java/lang/invoke/VarHandle" ∧ (parseMethodDescriptor k_X8_unmark.1.desc).map (fun d => d.parameters.length) = some 0 := ⟨rfl, by decide +kernel, by decide +kernel, by decide +kernel⟩
def k_X8_undo : zM := (yX8_undo, cX8_undo, 1, some .int)
theorem de_X8_undo : k_X8_undo.1.cls = k_X8_undo.1.cls ∧ k_X8_undo.1.cls ≠ "java/lang/invoke/MethodHandle" ∧ k_X8_undo.1.cls ≠ "java/lang/invoke/VarHandle" ∧ (parseMethodDescriptor k_X8_undo.1.desc).map (fun d => d.parameters.length) = some 0 := ⟨rfl, by decide +kernel, by decide +kernel, by decide +kernel⟩
def k_X8_redo : zM := (yX8_redo, cX8_redo, 1, some .int)
theorem de_X8_redo : k_X8_redo.1.cls = k_X8_redo.1.cls ∧ k_X8_redo.1.cls ≠ "java/lang/invoke/MethodHandle" ∧ k_X8_redo.1.cls ≠ "java/lang/invoke/VarHandle" ∧ (parseMethodDescriptor k_X8_redo.1.desc).map (fun d => d.parameters.length) = some 0 := ⟨rfl, by decide +kernel, by decide +kernel, by decide +kernel⟩
def k_X8_body : zM := (yX8_body, cX8_body, 2, some .int)
theorem de_X8_body : k_X8_body.1.cls = k_X8_body.1.cls ∧ k_X8_body.1.cls ≠ "java/lang/invoke/MethodHandle" ∧ k_X8_body.1.cls ≠ "java/lang/invoke/VarHandle" ∧ (parseMethodDescriptor k_X8_body.1.desc).map (fun d => d.parameters.length) = some 1 := ⟨rfl, by decide +kernel, by decide +kernel, by decide +kernel⟩
def k_X8_act : zM := (yX8_act, cX8_act, 4, some .int)
theorem de_X8_act : k_X8_act.1.cls = k_X8_act.1.cls ∧ k_X8_act.1.cls ≠ "java/lang/invoke/MethodHandle" ∧ k_X8_act.1.cls ≠ "java/lang/invoke/VarHandle" ∧ (parseMethodDescriptor k_X8_act.1.desc).map (fun d => d.parameters.length) = some 3 := ⟨rfl, by decide +kernel, by decide +kernel, by decide +kernel⟩
def k_X8_trace : zM := (yX8_trace, cX8_trace, 2, some .int)
theorem de_X8_trace : k_X8_trace.1.cls = k_X8_trace.1.cls ∧ k_X8_trace.1.cls ≠ "java/lang/invoke/MethodHandle" ∧ k_X8_trace.1.cls ≠ "java/lang/invoke/VarHandle" ∧ (parseMethodDescriptor k_X8_trace.1.desc).map (fun d => d.parameters.length) = some 1 := ⟨rfl, by decide +kernel, by decide +kernel, by decide +kernel⟩
def k_X8_keep : zM := (yX8_keep, cX8_keep, 3, some .int)
theorem de_X8_keep : k_X8_keep.1.cls = k_X8_keep.1.cls ∧ k_X8_keep.1.cls ≠ "java/lang/invoke/MethodHandle" ∧ k_X8_keep.1.cls ≠ "java/lang/invoke/VarHandle" ∧ (parseMethodDescriptor k_X8_keep.1.desc).map (fun d => d.parameters.length) = some 2 := ⟨rfl, by decide +kernel, by decide +kernel, by decide +kernel⟩
def k_X8_row : zM := (yX8_row, cX8_row, 4, some .int)
theorem de_X8_row : k_X8_row.1.cls = k_X8_row.1.cls ∧ k_X8_row.1.cls ≠ "java/lang/invoke/MethodHandle" ∧ k_X8_row.1.cls ≠ "java/lang/invoke/VarHandle" ∧ (parseMethodDescriptor k_X8_row.1.desc).map (fun d => d.parameters.length) = some 3 := ⟨rfl, by decide +kernel, by decide +kernel, by decide +kernel⟩
def k_X8_put : zM := (yX8_put, cX8_put, 6, some .int)
theorem de_X8_put : k_X8_put.1.cls = k_X8_put.1.cls ∧ k_X8_put.1.cls ≠ "java/lang/invoke/MethodHandle" ∧ k_X8_put.1.cls ≠ "java/lang/invoke/VarHandle" ∧ (parseMethodDescriptor k_X8_put.1.desc).map (fun d => d.parameters.length) = some 3 := ⟨rfl, by decide +kernel, by decide +kernel, by decide +kernel⟩
def k_X8_element : zM := (yX8_element, cX8_element, 3, some .long)
theorem de_X8_element : k_X8_element.1.cls = k_X8_element.1.cls ∧ k_X8_element.1.cls ≠ "java/lang/invoke/MethodHandle" ∧ k_X8_element.1.cls ≠ "java/lang/invoke/VarHandle" ∧ (parseMethodDescriptor k_X8_element.1.desc).map (fun d => d.parameters.length) = some 2 := ⟨rfl, by decide +kernel, by decide +kernel, by decide +kernel⟩
def k_X8_shift : zM := (yX8_shift, cX8_shift, 8, some .int)
theorem de_X8_shift : k_X8_shift.1.cls = k_X8_shift.1.cls ∧ k_X8_shift.1.cls ≠ "java/lang/invoke/MethodHandle" ∧ k_X8_shift.1.cls ≠ "java/lang/invoke/VarHandle" ∧ (parseMethodDescriptor k_X8_shift.1.desc).map (fun d => d.parameters.length) = some 5 := ⟨rfl, by decide +kernel, by decide +kernel, by decide +kernel⟩
def k_X8_taken : zM := (yX8_taken, cX8_taken, 4, some .int)
theorem de_X8_taken : k_X8_taken.1.cls = k_X8_taken.1.cls ∧ k_X8_taken.1.cls ≠ "java/lang/invoke/MethodHandle" ∧ k_X8_taken.1.cls ≠ "java/lang/invoke/VarHandle" ∧ (parseMethodDescriptor k_X8_taken.1.desc).map (fun d => d.parameters.length) = some 2 := ⟨rfl, by decide +kernel, by decide +kernel, by decide +kernel⟩
def k_X8_count : zM := (yX8_count, cX8_count, 2, some .int)
theorem de_X8_count : k_X8_count.1.cls = k_X8_count.1.cls ∧ k_X8_count.1.cls ≠ "java/lang/invoke/MethodHandle" ∧ k_X8_count.1.cls ≠ "java/lang/invoke/VarHandle" ∧ (parseMethodDescriptor k_X8_count.1.desc).map (fun d => d.parameters.length) = some 1 := ⟨rfl, by decide +kernel, by decide +kernel, by decide +kernel⟩
def k_X8_within : zM := (yX8_within, cX8_within, 3, some .boolean)
theorem de_X8_within : k_X8_within.1.cls ≠ "java/lang/invoke/MethodHandle" ∧ k_X8_within.1.cls ≠ "java/lang/invoke/VarHandle" ∧ (parseMethodDescriptor k_X8_within.1.desc).map (fun d => d.parameters.length) = some 3 := ⟨by decide +kernel, by decide +kernel, by decide +kernel⟩
def k_X8_isMinute : zM := (yX8_isMinute, cX8_isMinute, 1, some .boolean)
theorem de_X8_isMinute : k_X8_isMinute.1.cls ≠ "java/lang/invoke/MethodHandle" ∧ k_X8_isMinute.1.cls ≠ "java/lang/invoke/VarHandle" ∧ (parseMethodDescriptor k_X8_isMinute.1.desc).map (fun d => d.parameters.length) = some 1 := ⟨by decide +kernel, by decide +kernel, by decide +kernel⟩
def k_X8_isSort : zM := (yX8_isSort, cX8_isSort, 1, some .boolean)
theorem de_X8_isSort : k_X8_isSort.1.cls ≠ "java/lang/invoke/MethodHandle" ∧ k_X8_isSort.1.cls ≠ "java/lang/invoke/VarHandle" ∧ (parseMethodDescriptor k_X8_isSort.1.desc).map (fun d => d.parameters.length) = some 1 := ⟨by decide +kernel, by decide +kernel, by decide +kernel⟩
def k_X8_isShelf : zM := (yX8_isShelf, cX8_isShelf, 1, some .boolean)
theorem de_X8_isShelf : k_X8_isShelf.1.cls ≠ "java/lang/invoke/MethodHandle" ∧ k_X8_isShelf.1.cls ≠ "java/lang/invoke/VarHandle" ∧ (parseMethodDescriptor k_X8_isShelf.1.desc).map (fun d => d.parameters.length) = some 1 := ⟨by decide +kernel, by decide +kernel, by decide +kernel⟩
def k_X8_isPlace : zM := (yX8_isPlace, cX8_isPlace, 2, some .boolean)
theorem de_X8_isPlace : k_X8_isPlace.1.cls = k_X8_isPlace.1.cls ∧ k_X8_isPlace.1.cls ≠ "java/lang/invoke/MethodHandle" ∧ k_X8_isPlace.1.cls ≠ "java/lang/invoke/VarHandle" ∧ (parseMethodDescriptor k_X8_isPlace.1.desc).map (fun d => d.parameters.length) = some 1 := ⟨rfl, by decide +kernel, by decide +kernel, by decide +kernel⟩
def k_X8_isWay : zM := (yX8_isWay, cX8_isWay, 2, some .boolean)
theorem de_X8_isWay : k_X8_isWay.1.cls = k_X8_isWay.1.cls ∧ k_X8_isWay.1.cls ≠ "java/lang/invoke/MethodHandle" ∧ k_X8_isWay.1.cls ≠ "java/lang/invoke/VarHandle" ∧ (parseMethodDescriptor k_X8_isWay.1.desc).map (fun d => d.parameters.length) = some 1 := ⟨rfl, by decide +kernel, by decide +kernel, by decide +kernel⟩
def k_X8_isPair : zM := (yX8_isPair, cX8_isPair, 2, some .boolean)
theorem de_X8_isPair : k_X8_isPair.1.cls = k_X8_isPair.1.cls ∧ k_X8_isPair.1.cls ≠ "java/lang/invoke/MethodHandle" ∧ k_X8_isPair.1.cls ≠ "java/lang/invoke/VarHandle" ∧ (parseMethodDescriptor k_X8_isPair.1.desc).map (fun d => d.parameters.length) = some 1 := ⟨rfl, by decide +kernel, by decide +kernel, by decide +kernel⟩
def k_X8_isFrom : zM := (yX8_isFrom, cX8_isFrom, 2, some .boolean)
theorem de_X8_isFrom : k_X8_isFrom.1.cls = k_X8_isFrom.1.cls ∧ k_X8_isFrom.1.cls ≠ "java/lang/invoke/MethodHandle" ∧ k_X8_isFrom.1.cls ≠ "java/lang/invoke/VarHandle" ∧ (parseMethodDescriptor k_X8_isFrom.1.desc).map (fun d => d.parameters.length) = some 1 := ⟨rfl, by decide +kernel, by decide +kernel, by decide +kernel⟩
def k_X8_isSortAndTide : zM := (yX8_isSortAndTide, cX8_isSortAndTide, 2, some .boolean)
theorem de_X8_isSortAndTide : k_X8_isSortAndTide.1.cls = k_X8_isSortAndTide.1.cls ∧ k_X8_isSortAndTide.1.cls ≠ "java/lang/invoke/MethodHandle" ∧ k_X8_isSortAndTide.1.cls ≠ "java/lang/invoke/VarHandle" ∧ (parseMethodDescriptor k_X8_isSortAndTide.1.desc).map (fun d => d.parameters.length) = some 1 := ⟨rfl, by decide +kernel, by decide +kernel, by decide +kernel⟩
def k_X8_isWinds : zM := (yX8_isWinds, cX8_isWinds, 2, some .boolean)
theorem de_X8_isWinds : k_X8_isWinds.1.cls = k_X8_isWinds.1.cls ∧ k_X8_isWinds.1.cls ≠ "java/lang/invoke/MethodHandle" ∧ k_X8_isWinds.1.cls ≠ "java/lang/invoke/VarHandle" ∧ (parseMethodDescriptor k_X8_isWinds.1.desc).map (fun d => d.parameters.length) = some 1 := ⟨rfl, by decide +kernel, by decide +kernel, by decide +kernel⟩
def k_X8_isMove : zM := (yX8_isMove, cX8_isMove, 2, some .boolean)
theorem de_X8_isMove : k_X8_isMove.1.cls = k_X8_isMove.1.cls ∧ k_X8_isMove.1.cls ≠ "java/lang/invoke/MethodHandle" ∧ k_X8_isMove.1.cls ≠ "java/lang/invoke/VarHandle" ∧ (parseMethodDescriptor k_X8_isMove.1.desc).map (fun d => d.parameters.length) = some 1 := ⟨rfl, by decide +kernel, by decide +kernel, by decide +kernel⟩
def k_X8_refusalOfElement : zM := (yX8_refusalOfElement, cX8_refusalOfElement, 4, some .int)
theorem de_X8_refusalOfElement : k_X8_refusalOfElement.1.cls = k_X8_refusalOfElement.1.cls ∧ k_X8_refusalOfElement.1.cls ≠ "java/lang/invoke/MethodHandle" ∧ k_X8_refusalOfElement.1.cls ≠ "java/lang/invoke/VarHandle" ∧ (parseMethodDescriptor k_X8_refusalOfElement.1.desc).map (fun d => d.parameters.length) = some 2 := ⟨rfl, by decide +kernel, by decide +kernel, by decide +kernel⟩
def k_X8_soonOrDay : zM := (yX8_soonOrDay, cX8_soonOrDay, 4, some .int)
theorem de_X8_soonOrDay : k_X8_soonOrDay.1.cls = k_X8_soonOrDay.1.cls ∧ k_X8_soonOrDay.1.cls ≠ "java/lang/invoke/MethodHandle" ∧ k_X8_soonOrDay.1.cls ≠ "java/lang/invoke/VarHandle" ∧ (parseMethodDescriptor k_X8_soonOrDay.1.desc).map (fun d => d.parameters.length) = some 2 := ⟨rfl, by decide +kernel, by decide +kernel, by decide +kernel⟩
def k_X8_soonLifted : zM := (yX8_soonLifted, cX8_soonLifted, 7, some .int)
theorem de_X8_soonLifted : k_X8_soonLifted.1.cls = k_X8_soonLifted.1.cls ∧ k_X8_soonLifted.1.cls ≠ "java/lang/invoke/MethodHandle" ∧ k_X8_soonLifted.1.cls ≠ "java/lang/invoke/VarHandle" ∧ (parseMethodDescriptor k_X8_soonLifted.1.desc).map (fun d => d.parameters.length) = some 4 := ⟨rfl, by decide +kernel, by decide +kernel, by decide +kernel⟩
def k_X8_reachedByDark : zM := (yX8_reachedByDark, cX8_reachedByDark, 5, some .boolean)
theorem de_X8_reachedByDark : k_X8_reachedByDark.1.cls = k_X8_reachedByDark.1.cls ∧ k_X8_reachedByDark.1.cls ≠ "java/lang/invoke/MethodHandle" ∧ k_X8_reachedByDark.1.cls ≠ "java/lang/invoke/VarHandle" ∧ (parseMethodDescriptor k_X8_reachedByDark.1.desc).map (fun d => d.parameters.length) = some 4 := ⟨rfl, by decide +kernel, by decide +kernel, by decide +kernel⟩
def k_X8_bestSet : zM := (yX8_bestSet, cX8_bestSet, 8, some .int)
theorem de_X8_bestSet : k_X8_bestSet.1.cls = k_X8_bestSet.1.cls ∧ k_X8_bestSet.1.cls ≠ "java/lang/invoke/MethodHandle" ∧ k_X8_bestSet.1.cls ≠ "java/lang/invoke/VarHandle" ∧ (parseMethodDescriptor k_X8_bestSet.1.desc).map (fun d => d.parameters.length) = some 3 := ⟨rfl, by decide +kernel, by decide +kernel, by decide +kernel⟩
def k_X8_likeliestUntried : zM := (yX8_likeliestUntried, cX8_likeliestUntried, 6, some .int)
theorem de_X8_likeliestUntried : k_X8_likeliestUntried.1.cls = k_X8_likeliestUntried.1.cls ∧ k_X8_likeliestUntried.1.cls ≠ "java/lang/invoke/MethodHandle" ∧ k_X8_likeliestUntried.1.cls ≠ "java/lang/invoke/VarHandle" ∧ (parseMethodDescriptor k_X8_likeliestUntried.1.desc).map (fun d => d.parameters.length) = some 2 := ⟨rfl, by decide +kernel, by decide +kernel, by decide +kernel⟩
def k_X8_marksCanHaveBeen : zM := (yX8_marksCanHaveBeen, cX8_marksCanHaveBeen, 2, some .boolean)
theorem de_X8_marksCanHaveBeen : k_X8_marksCanHaveBeen.1.cls = k_X8_marksCanHaveBeen.1.cls ∧ k_X8_marksCanHaveBeen.1.cls ≠ "java/lang/invoke/MethodHandle" ∧ k_X8_marksCanHaveBeen.1.cls ≠ "java/lang/invoke/VarHandle" ∧ (parseMethodDescriptor k_X8_marksCanHaveBeen.1.desc).map (fun d => d.parameters.length) = some 0 := ⟨rfl, by decide +kernel, by decide +kernel, by decide +kernel⟩
def k_X9_within : zM := (yX9_within, cX9_within, 6, some .boolean)
theorem de_X9_within : k_X9_within.1.cls ≠ "java/lang/invoke/MethodHandle" ∧ k_X9_within.1.cls ≠ "java/lang/invoke/VarHandle" ∧ (parseMethodDescriptor k_X9_within.1.desc).map (fun d => d.parameters.length) = some 3 := ⟨by decide +kernel, by decide +kernel, by decide +kernel⟩
def k_X9_isMinute : zM := (yX9_isMinute, cX9_isMinute, 1, some .boolean)
theorem de_X9_isMinute : k_X9_isMinute.1.cls ≠ "java/lang/invoke/MethodHandle" ∧ k_X9_isMinute.1.cls ≠ "java/lang/invoke/VarHandle" ∧ (parseMethodDescriptor k_X9_isMinute.1.desc).map (fun d => d.parameters.length) = some 1 := ⟨by decide +kernel, by decide +kernel, by decide +kernel⟩
def k_X9_becomes : zM := (yX9_becomes, cX9_becomes, 5, some .int)
theorem de_X9_becomes : k_X9_becomes.1.cls = k_X9_becomes.1.cls ∧ k_X9_becomes.1.cls ≠ "java/lang/invoke/MethodHandle" ∧ k_X9_becomes.1.cls ≠ "java/lang/invoke/VarHandle" ∧ (parseMethodDescriptor k_X9_becomes.1.desc).map (fun d => d.parameters.length) = some 2 := ⟨rfl, by decide +kernel, by decide +kernel, by decide +kernel⟩
def k_X9_undo : zM := (yX9_undo, cX9_undo, 1, some .int)
theorem de_X9_undo : k_X9_undo.1.cls = k_X9_undo.1.cls ∧ k_X9_undo.1.cls ≠ "java/lang/invoke/MethodHandle" ∧ k_X9_undo.1.cls ≠ "java/lang/invoke/VarHandle" ∧ (parseMethodDescriptor k_X9_undo.1.desc).map (fun d => d.parameters.length) = some 0 := ⟨rfl, by decide +kernel, by decide +kernel, by decide +kernel⟩
def k_X9_redo : zM := (yX9_redo, cX9_redo, 1, some .int)
theorem de_X9_redo : k_X9_redo.1.cls = k_X9_redo.1.cls ∧ k_X9_redo.1.cls ≠ "java/lang/invoke/MethodHandle" ∧ k_X9_redo.1.cls ≠ "java/lang/invoke/VarHandle" ∧ (parseMethodDescriptor k_X9_redo.1.desc).map (fun d => d.parameters.length) = some 0 := ⟨rfl, by decide +kernel, by decide +kernel, by decide +kernel⟩
def k_X9_feed : zM := (yX9_feed, cX9_feed, 4, some .int)
theorem de_X9_feed : k_X9_feed.1.cls = k_X9_feed.1.cls ∧ k_X9_feed.1.cls ≠ "java/lang/invoke/MethodHandle" ∧ k_X9_feed.1.cls ≠ "java/lang/invoke/VarHandle" ∧ (parseMethodDescriptor k_X9_feed.1.desc).map (fun d => d.parameters.length) = some 2 := ⟨rfl, by decide +kernel, by decide +kernel, by decide +kernel⟩
def k_X9_byteAt : zM := (yX9_byteAt, cX9_byteAt, 1, some .int)
theorem de_X9_byteAt : k_X9_byteAt.1.cls = k_X9_byteAt.1.cls ∧ k_X9_byteAt.1.cls ≠ "java/lang/invoke/MethodHandle" ∧ k_X9_byteAt.1.cls ≠ "java/lang/invoke/VarHandle" ∧ (parseMethodDescriptor k_X9_byteAt.1.desc).map (fun d => d.parameters.length) = some 0 := ⟨rfl, by decide +kernel, by decide +kernel, by decide +kernel⟩
def k_X9_number : zM := (yX9_number, cX9_number, 6, some .int)
theorem de_X9_number : k_X9_number.1.cls = k_X9_number.1.cls ∧ k_X9_number.1.cls ≠ "java/lang/invoke/MethodHandle" ∧ k_X9_number.1.cls ≠ "java/lang/invoke/VarHandle" ∧ (parseMethodDescriptor k_X9_number.1.desc).map (fun d => d.parameters.length) = some 3 := ⟨rfl, by decide +kernel, by decide +kernel, by decide +kernel⟩
def k_X9_readPoints : zM := (yX9_readPoints, cX9_readPoints, 4, some .boolean)
theorem de_X9_readPoints : k_X9_readPoints.1.cls = k_X9_readPoints.1.cls ∧ k_X9_readPoints.1.cls ≠ "java/lang/invoke/MethodHandle" ∧ k_X9_readPoints.1.cls ≠ "java/lang/invoke/VarHandle" ∧ (parseMethodDescriptor k_X9_readPoints.1.desc).map (fun d => d.parameters.length) = some 0 := ⟨rfl, by decide +kernel, by decide +kernel, by decide +kernel⟩
def k_X9_tide : zM := (yX9_tide, cX9_tide, 3, some .int)
theorem de_X9_tide : k_X9_tide.1.cls = k_X9_tide.1.cls ∧ k_X9_tide.1.cls ≠ "java/lang/invoke/MethodHandle" ∧ k_X9_tide.1.cls ≠ "java/lang/invoke/VarHandle" ∧ (parseMethodDescriptor k_X9_tide.1.desc).map (fun d => d.parameters.length) = some 0 := ⟨rfl, by decide +kernel, by decide +kernel, by decide +kernel⟩
def k_X9_isTide : zM := (yX9_isTide, cX9_isTide, 2, some .boolean)
theorem de_X9_isTide : k_X9_isTide.1.cls = k_X9_isTide.1.cls ∧ k_X9_isTide.1.cls ≠ "java/lang/invoke/MethodHandle" ∧ k_X9_isTide.1.cls ≠ "java/lang/invoke/VarHandle" ∧ (parseMethodDescriptor k_X9_isTide.1.desc).map (fun d => d.parameters.length) = some 1 := ⟨rfl, by decide +kernel, by decide +kernel, by decide +kernel⟩
def k_X9_isWind : zM := (yX9_isWind, cX9_isWind, 2, some .boolean)
theorem de_X9_isWind : k_X9_isWind.1.cls = k_X9_isWind.1.cls ∧ k_X9_isWind.1.cls ≠ "java/lang/invoke/MethodHandle" ∧ k_X9_isWind.1.cls ≠ "java/lang/invoke/VarHandle" ∧ (parseMethodDescriptor k_X9_isWind.1.desc).map (fun d => d.parameters.length) = some 1 := ⟨rfl, by decide +kernel, by decide +kernel, by decide +kernel⟩
def k_X9_wind : zM := (yX9_wind, cX9_wind, 4, some .int)
theorem de_X9_wind : k_X9_wind.1.cls = k_X9_wind.1.cls ∧ k_X9_wind.1.cls ≠ "java/lang/invoke/MethodHandle" ∧ k_X9_wind.1.cls ≠ "java/lang/invoke/VarHandle" ∧ (parseMethodDescriptor k_X9_wind.1.desc).map (fun d => d.parameters.length) = some 3 := ⟨rfl, by decide +kernel, by decide +kernel, by decide +kernel⟩
def k_X9_tideAt : zM := (yX9_tideAt, cX9_tideAt, 8, some .int)
theorem de_X9_tideAt : k_X9_tideAt.1.cls = k_X9_tideAt.1.cls ∧ k_X9_tideAt.1.cls ≠ "java/lang/invoke/MethodHandle" ∧ k_X9_tideAt.1.cls ≠ "java/lang/invoke/VarHandle" ∧ (parseMethodDescriptor k_X9_tideAt.1.desc).map (fun d => d.parameters.length) = some 2 := ⟨rfl, by decide +kernel, by decide +kernel, by decide +kernel⟩
def k_X9_seaAt : zM := (yX9_seaAt, cX9_seaAt, 5, some .int)
theorem de_X9_seaAt : k_X9_seaAt.1.cls = k_X9_seaAt.1.cls ∧ k_X9_seaAt.1.cls ≠ "java/lang/invoke/MethodHandle" ∧ k_X9_seaAt.1.cls ≠ "java/lang/invoke/VarHandle" ∧ (parseMethodDescriptor k_X9_seaAt.1.desc).map (fun d => d.parameters.length) = some 3 := ⟨rfl, by decide +kernel, by decide +kernel, by decide +kernel⟩
def k_X9_sea : zM := (yX9_sea, cX9_sea, 4, some .int)
theorem de_X9_sea : k_X9_sea.1.cls = k_X9_sea.1.cls ∧ k_X9_sea.1.cls ≠ "java/lang/invoke/MethodHandle" ∧ k_X9_sea.1.cls ≠ "java/lang/invoke/VarHandle" ∧ (parseMethodDescriptor k_X9_sea.1.desc).map (fun d => d.parameters.length) = some 3 := ⟨rfl, by decide +kernel, by decide +kernel, by decide +kernel⟩
def k_X9_isPlace : zM := (yX9_isPlace, cX9_isPlace, 2, some .boolean)
theorem de_X9_isPlace : k_X9_isPlace.1.cls = k_X9_isPlace.1.cls ∧ k_X9_isPlace.1.cls ≠ "java/lang/invoke/MethodHandle" ∧ k_X9_isPlace.1.cls ≠ "java/lang/invoke/VarHandle" ∧ (parseMethodDescriptor k_X9_isPlace.1.desc).map (fun d => d.parameters.length) = some 1 := ⟨rfl, by decide +kernel, by decide +kernel, by decide +kernel⟩
def k_X9_isWay : zM := (yX9_isWay, cX9_isWay, 2, some .boolean)
theorem de_X9_isWay : k_X9_isWay.1.cls = k_X9_isWay.1.cls ∧ k_X9_isWay.1.cls ≠ "java/lang/invoke/MethodHandle" ∧ k_X9_isWay.1.cls ≠ "java/lang/invoke/VarHandle" ∧ (parseMethodDescriptor k_X9_isWay.1.desc).map (fun d => d.parameters.length) = some 1 := ⟨rfl, by decide +kernel, by decide +kernel, by decide +kernel⟩
def k_X9_place : zM := (yX9_place, cX9_place, 2, some .int)
theorem de_X9_place : k_X9_place.1.cls = k_X9_place.1.cls ∧ k_X9_place.1.cls ≠ "java/lang/invoke/MethodHandle" ∧ k_X9_place.1.cls ≠ "java/lang/invoke/VarHandle" ∧ (parseMethodDescriptor k_X9_place.1.desc).map (fun d => d.parameters.length) = some 1 := ⟨rfl, by decide +kernel, by decide +kernel, by decide +kernel⟩
def k_X9_areTwo : zM := (yX9_areTwo, cX9_areTwo, 2, some .boolean)
theorem de_X9_areTwo : k_X9_areTwo.1.cls = k_X9_areTwo.1.cls ∧ k_X9_areTwo.1.cls ≠ "java/lang/invoke/MethodHandle" ∧ k_X9_areTwo.1.cls ≠ "java/lang/invoke/VarHandle" ∧ (parseMethodDescriptor k_X9_areTwo.1.desc).map (fun d => d.parameters.length) = some 1 := ⟨rfl, by decide +kernel, by decide +kernel, by decide +kernel⟩
def k_X9_way : zM := (yX9_way, cX9_way, 3, some .int)
theorem de_X9_way : k_X9_way.1.cls = k_X9_way.1.cls ∧ k_X9_way.1.cls ≠ "java/lang/invoke/MethodHandle" ∧ k_X9_way.1.cls ≠ "java/lang/invoke/VarHandle" ∧ (parseMethodDescriptor k_X9_way.1.desc).map (fun d => d.parameters.length) = some 2 := ⟨rfl, by decide +kernel, by decide +kernel, by decide +kernel⟩
def k_X9_safe : zM := (yX9_safe, cX9_safe, 3, some .int)
theorem de_X9_safe : k_X9_safe.1.cls = k_X9_safe.1.cls ∧ k_X9_safe.1.cls ≠ "java/lang/invoke/MethodHandle" ∧ k_X9_safe.1.cls ≠ "java/lang/invoke/VarHandle" ∧ (parseMethodDescriptor k_X9_safe.1.desc).map (fun d => d.parameters.length) = some 2 := ⟨rfl, by decide +kernel, by decide +kernel, by decide +kernel⟩
def k_X9_alter : zM := (yX9_alter, cX9_alter, 4, some .int)
theorem de_X9_alter : k_X9_alter.1.cls = k_X9_alter.1.cls ∧ k_X9_alter.1.cls ≠ "java/lang/invoke/MethodHandle" ∧ k_X9_alter.1.cls ≠ "java/lang/invoke/VarHandle" ∧ (parseMethodDescriptor k_X9_alter.1.desc).map (fun d => d.parameters.length) = some 3 := ⟨rfl, by decide +kernel, by decide +kernel, by decide +kernel⟩
def k_X9_isSort : zM := (yX9_isSort, cX9_isSort, 1, some .boolean)
theorem de_X9_isSort : k_X9_isSort.1.cls ≠ "java/lang/invoke/MethodHandle" ∧ k_X9_isSort.1.cls ≠ "java/lang/invoke/VarHandle" ∧ (parseMethodDescriptor k_X9_isSort.1.desc).map (fun d => d.parameters.length) = some 1 := ⟨by decide +kernel, by decide +kernel, by decide +kernel⟩
def k_X9_sort : zM := (yX9_sort, cX9_sort, 3, some .int)
theorem de_X9_sort : k_X9_sort.1.cls = k_X9_sort.1.cls ∧ k_X9_sort.1.cls ≠ "java/lang/invoke/MethodHandle" ∧ k_X9_sort.1.cls ≠ "java/lang/invoke/VarHandle" ∧ (parseMethodDescriptor k_X9_sort.1.desc).map (fun d => d.parameters.length) = some 2 := ⟨rfl, by decide +kernel, by decide +kernel, by decide +kernel⟩
def k_X9_light : zM := (yX9_light, cX9_light, 4, some .int)
theorem de_X9_light : k_X9_light.1.cls = k_X9_light.1.cls ∧ k_X9_light.1.cls ≠ "java/lang/invoke/MethodHandle" ∧ k_X9_light.1.cls ≠ "java/lang/invoke/VarHandle" ∧ (parseMethodDescriptor k_X9_light.1.desc).map (fun d => d.parameters.length) = some 2 := ⟨rfl, by decide +kernel, by decide +kernel, by decide +kernel⟩
def k_X9_takesOf : zM := (yX9_takesOf, cX9_takesOf, 4, some .int)
theorem de_X9_takesOf : k_X9_takesOf.1.cls = k_X9_takesOf.1.cls ∧ k_X9_takesOf.1.cls ≠ "java/lang/invoke/MethodHandle" ∧ k_X9_takesOf.1.cls ≠ "java/lang/invoke/VarHandle" ∧ (parseMethodDescriptor k_X9_takesOf.1.desc).map (fun d => d.parameters.length) = some 3 := ⟨rfl, by decide +kernel, by decide +kernel, by decide +kernel⟩
def k_X9_takes : zM := (yX9_takes, cX9_takes, 4, some .int)
theorem de_X9_takes : k_X9_takes.1.cls = k_X9_takes.1.cls ∧ k_X9_takes.1.cls ≠ "java/lang/invoke/MethodHandle" ∧ k_X9_takes.1.cls ≠ "java/lang/invoke/VarHandle" ∧ (parseMethodDescriptor k_X9_takes.1.desc).map (fun d => d.parameters.length) = some 3 := ⟨rfl, by decide +kernel, by decide +kernel, by decide +kernel⟩
def k_X9_layOut : zM := (yX9_layOut, cX9_layOut, 7, none)
theorem de_X9_layOut : k_X9_layOut.1.cls = k_X9_layOut.1.cls ∧ k_X9_layOut.1.cls ≠ "java/lang/invoke/MethodHandle" ∧ k_X9_layOut.1.cls ≠ "java/lang/invoke/VarHandle" ∧ (parseMethodDescriptor k_X9_layOut.1.desc).map (fun d => d.parameters.length) = some 2 := ⟨rfl, by decide +kernel, by decide +kernel, by decide +kernel⟩
def k_X9_goes : zM := (yX9_goes, cX9_goes, 7, some .boolean)
theorem de_X9_goes : k_X9_goes.1.cls = k_X9_goes.1.cls ∧ k_X9_goes.1.cls ≠ "java/lang/invoke/MethodHandle" ∧ k_X9_goes.1.cls ≠ "java/lang/invoke/VarHandle" ∧ (parseMethodDescriptor k_X9_goes.1.desc).map (fun d => d.parameters.length) = some 3 := ⟨rfl, by decide +kernel, by decide +kernel, by decide +kernel⟩
def k_X9_waits : zM := (yX9_waits, cX9_waits, 3, some .boolean)
theorem de_X9_waits : k_X9_waits.1.cls = k_X9_waits.1.cls ∧ k_X9_waits.1.cls ≠ "java/lang/invoke/MethodHandle" ∧ k_X9_waits.1.cls ≠ "java/lang/invoke/VarHandle" ∧ (parseMethodDescriptor k_X9_waits.1.desc).map (fun d => d.parameters.length) = some 2 := ⟨rfl, by decide +kernel, by decide +kernel, by decide +kernel⟩
def k_X9_otherEnd : zM := (yX9_otherEnd, cX9_otherEnd, 3, some .int)
theorem de_X9_otherEnd : k_X9_otherEnd.1.cls = k_X9_otherEnd.1.cls ∧ k_X9_otherEnd.1.cls ≠ "java/lang/invoke/MethodHandle" ∧ k_X9_otherEnd.1.cls ≠ "java/lang/invoke/VarHandle" ∧ (parseMethodDescriptor k_X9_otherEnd.1.desc).map (fun d => d.parameters.length) = some 2 := ⟨rfl, by decide +kernel, by decide +kernel, by decide +kernel⟩
def k_X9_stateOf : zM := (yX9_stateOf, cX9_stateOf, 3, some .int)
theorem de_X9_stateOf : k_X9_stateOf.1.cls ≠ "java/lang/invoke/MethodHandle" ∧ k_X9_stateOf.1.cls ≠ "java/lang/invoke/VarHandle" ∧ (parseMethodDescriptor k_X9_stateOf.1.desc).map (fun d => d.parameters.length) = some 3 := ⟨by decide +kernel, by decide +kernel, by decide +kernel⟩
def k_X9_spread : zM := (yX9_spread, cX9_spread, 7, none)
theorem de_X9_spread : k_X9_spread.1.cls = k_X9_spread.1.cls ∧ k_X9_spread.1.cls ≠ "java/lang/invoke/MethodHandle" ∧ k_X9_spread.1.cls ≠ "java/lang/invoke/VarHandle" ∧ (parseMethodDescriptor k_X9_spread.1.desc).map (fun d => d.parameters.length) = some 3 := ⟨rfl, by decide +kernel, by decide +kernel, by decide +kernel⟩
def k_X9_reach : zM := (yX9_reach, cX9_reach, 7, none)
theorem de_X9_reach : k_X9_reach.1.cls = k_X9_reach.1.cls ∧ k_X9_reach.1.cls ≠ "java/lang/invoke/MethodHandle" ∧ k_X9_reach.1.cls ≠ "java/lang/invoke/VarHandle" ∧ (parseMethodDescriptor k_X9_reach.1.desc).map (fun d => d.parameters.length) = some 3 := ⟨rfl, by decide +kernel, by decide +kernel, by decide +kernel⟩
def k_X9_isAt : zM := (yX9_isAt, cX9_isAt, 4, some .boolean)
theorem de_X9_isAt : k_X9_isAt.1.cls = k_X9_isAt.1.cls ∧ k_X9_isAt.1.cls ≠ "java/lang/invoke/MethodHandle" ∧ k_X9_isAt.1.cls ≠ "java/lang/invoke/VarHandle" ∧ (parseMethodDescriptor k_X9_isAt.1.desc).map (fun d => d.parameters.length) = some 2 := ⟨rfl, by decide +kernel, by decide +kernel, by decide +kernel⟩
def k_X9_soonAt : zM := (yX9_soonAt, cX9_soonAt, 3, some .int)
theorem de_X9_soonAt : k_X9_soonAt.1.cls = k_X9_soonAt.1.cls ∧ k_X9_soonAt.1.cls ≠ "java/lang/invoke/MethodHandle" ∧ k_X9_soonAt.1.cls ≠ "java/lang/invoke/VarHandle" ∧ (parseMethodDescriptor k_X9_soonAt.1.desc).map (fun d => d.parameters.length) = some 1 := ⟨rfl, by decide +kernel, by decide +kernel, by decide +kernel⟩
def k_X9_isFrom : zM := (yX9_isFrom, cX9_isFrom, 2, some .boolean)
theorem de_X9_isFrom : k_X9_isFrom.1.cls = k_X9_isFrom.1.cls ∧ k_X9_isFrom.1.cls ≠ "java/lang/invoke/MethodHandle" ∧ k_X9_isFrom.1.cls ≠ "java/lang/invoke/VarHandle" ∧ (parseMethodDescriptor k_X9_isFrom.1.desc).map (fun d => d.parameters.length) = some 1 := ⟨rfl, by decide +kernel, by decide +kernel, by decide +kernel⟩
def k_X9_isSt : zM := (yX9_isSt, cX9_isSt, 2, some .boolean)
theorem de_X9_isSt : k_X9_isSt.1.cls = k_X9_isSt.1.cls ∧ k_X9_isSt.1.cls ≠ "java/lang/invoke/MethodHandle" ∧ k_X9_isSt.1.cls ≠ "java/lang/invoke/VarHandle" ∧ (parseMethodDescriptor k_X9_isSt.1.desc).map (fun d => d.parameters.length) = some 1 := ⟨rfl, by decide +kernel, by decide +kernel, by decide +kernel⟩
def k_X9_areWinds : zM := (yX9_areWinds, cX9_areWinds, 2, some .boolean)
theorem de_X9_areWinds : k_X9_areWinds.1.cls = k_X9_areWinds.1.cls ∧ k_X9_areWinds.1.cls ≠ "java/lang/invoke/MethodHandle" ∧ k_X9_areWinds.1.cls ≠ "java/lang/invoke/VarHandle" ∧ (parseMethodDescriptor k_X9_areWinds.1.desc).map (fun d => d.parameters.length) = some 1 := ⟨rfl, by decide +kernel, by decide +kernel, by decide +kernel⟩
def k_X9_open : zM := (yX9_open, cX9_open, 9, some .int)
theorem de_X9_open : k_X9_open.1.cls = k_X9_open.1.cls ∧ k_X9_open.1.cls ≠ "java/lang/invoke/MethodHandle" ∧ k_X9_open.1.cls ≠ "java/lang/invoke/VarHandle" ∧ (parseMethodDescriptor k_X9_open.1.desc).map (fun d => d.parameters.length) = some 4 := ⟨rfl, by decide +kernel, by decide +kernel, by decide +kernel⟩
def k_X9_soon : zM := (yX9_soon, cX9_soon, 5, some .int)
theorem de_X9_soon : k_X9_soon.1.cls = k_X9_soon.1.cls ∧ k_X9_soon.1.cls ≠ "java/lang/invoke/MethodHandle" ∧ k_X9_soon.1.cls ≠ "java/lang/invoke/VarHandle" ∧ (parseMethodDescriptor k_X9_soon.1.desc).map (fun d => d.parameters.length) = some 4 := ⟨rfl, by decide +kernel, by decide +kernel, by decide +kernel⟩
def k_X9_goBack : zM := (yX9_goBack, cX9_goBack, 7, none)
theorem de_X9_goBack : k_X9_goBack.1.cls = k_X9_goBack.1.cls ∧ k_X9_goBack.1.cls ≠ "java/lang/invoke/MethodHandle" ∧ k_X9_goBack.1.cls ≠ "java/lang/invoke/VarHandle" ∧ (parseMethodDescriptor k_X9_goBack.1.desc).map (fun d => d.parameters.length) = some 3 := ⟨rfl, by decide +kernel, by decide +kernel, by decide +kernel⟩
def k_X9_comesFrom : zM := (yX9_comesFrom, cX9_comesFrom, 8, some .boolean)
theorem de_X9_comesFrom : k_X9_comesFrom.1.cls = k_X9_comesFrom.1.cls ∧ k_X9_comesFrom.1.cls ≠ "java/lang/invoke/MethodHandle" ∧ k_X9_comesFrom.1.cls ≠ "java/lang/invoke/VarHandle" ∧ (parseMethodDescriptor k_X9_comesFrom.1.desc).map (fun d => d.parameters.length) = some 3 := ⟨rfl, by decide +kernel, by decide +kernel, by decide +kernel⟩
def k_X9_lastFrom : zM := (yX9_lastFrom, cX9_lastFrom, 5, some .int)
theorem de_X9_lastFrom : k_X9_lastFrom.1.cls = k_X9_lastFrom.1.cls ∧ k_X9_lastFrom.1.cls ≠ "java/lang/invoke/MethodHandle" ∧ k_X9_lastFrom.1.cls ≠ "java/lang/invoke/VarHandle" ∧ (parseMethodDescriptor k_X9_lastFrom.1.desc).map (fun d => d.parameters.length) = some 3 := ⟨rfl, by decide +kernel, by decide +kernel, by decide +kernel⟩
def k_X9_last : zM := (yX9_last, cX9_last, 4, some .int)
theorem de_X9_last : k_X9_last.1.cls = k_X9_last.1.cls ∧ k_X9_last.1.cls ≠ "java/lang/invoke/MethodHandle" ∧ k_X9_last.1.cls ≠ "java/lang/invoke/VarHandle" ∧ (parseMethodDescriptor k_X9_last.1.desc).map (fun d => d.parameters.length) = some 3 := ⟨rfl, by decide +kernel, by decide +kernel, by decide +kernel⟩
def k_X9_allWinds : zM := (yX9_allWinds, cX9_allWinds, 1, some .int)
theorem de_X9_allWinds : k_X9_allWinds.1.cls = k_X9_allWinds.1.cls ∧ k_X9_allWinds.1.cls ≠ "java/lang/invoke/MethodHandle" ∧ k_X9_allWinds.1.cls ≠ "java/lang/invoke/VarHandle" ∧ (parseMethodDescriptor k_X9_allWinds.1.desc).map (fun d => d.parameters.length) = some 0 := ⟨rfl, by decide +kernel, by decide +kernel, by decide +kernel⟩
def k_X9_chancesOf : zM := (yX9_chancesOf, cX9_chancesOf, 4, some .int)
theorem de_X9_chancesOf : k_X9_chancesOf.1.cls = k_X9_chancesOf.1.cls ∧ k_X9_chancesOf.1.cls ≠ "java/lang/invoke/MethodHandle" ∧ k_X9_chancesOf.1.cls ≠ "java/lang/invoke/VarHandle" ∧ (parseMethodDescriptor k_X9_chancesOf.1.desc).map (fun d => d.parameters.length) = some 1 := ⟨rfl, by decide +kernel, by decide +kernel, by decide +kernel⟩
def k_X9_byDark : zM := (yX9_byDark, cX9_byDark, 6, some .boolean)
theorem de_X9_byDark : k_X9_byDark.1.cls = k_X9_byDark.1.cls ∧ k_X9_byDark.1.cls ≠ "java/lang/invoke/MethodHandle" ∧ k_X9_byDark.1.cls ≠ "java/lang/invoke/VarHandle" ∧ (parseMethodDescriptor k_X9_byDark.1.desc).map (fun d => d.parameters.length) = some 4 := ⟨rfl, by decide +kernel, by decide +kernel, by decide +kernel⟩
def k_X9_best : zM := (yX9_best, cX9_best, 7, some .int)
theorem de_X9_best : k_X9_best.1.cls = k_X9_best.1.cls ∧ k_X9_best.1.cls ≠ "java/lang/invoke/MethodHandle" ∧ k_X9_best.1.cls ≠ "java/lang/invoke/VarHandle" ∧ (parseMethodDescriptor k_X9_best.1.desc).map (fun d => d.parameters.length) = some 4 := ⟨rfl, by decide +kernel, by decide +kernel, by decide +kernel⟩
def k_X9_days : zM := (yX9_days, cX9_days, 9, some .int)
theorem de_X9_days : k_X9_days.1.cls = k_X9_days.1.cls ∧ k_X9_days.1.cls ≠ "java/lang/invoke/MethodHandle" ∧ k_X9_days.1.cls ≠ "java/lang/invoke/VarHandle" ∧ (parseMethodDescriptor k_X9_days.1.desc).map (fun d => d.parameters.length) = some 3 := ⟨rfl, by decide +kernel, by decide +kernel, by decide +kernel⟩
def k_X9_two : zM := (yX9_two, cX9_two, 8, some .int)
theorem de_X9_two : k_X9_two.1.cls = k_X9_two.1.cls ∧ k_X9_two.1.cls ≠ "java/lang/invoke/MethodHandle" ∧ k_X9_two.1.cls ≠ "java/lang/invoke/VarHandle" ∧ (parseMethodDescriptor k_X9_two.1.desc).map (fun d => d.parameters.length) = some 5 := ⟨rfl, by decide +kernel, by decide +kernel, by decide +kernel⟩
def k_X9_soonOrNever : zM := (yX9_soonOrNever, cX9_soonOrNever, 5, some .int)
theorem de_X9_soonOrNever : k_X9_soonOrNever.1.cls = k_X9_soonOrNever.1.cls ∧ k_X9_soonOrNever.1.cls ≠ "java/lang/invoke/MethodHandle" ∧ k_X9_soonOrNever.1.cls ≠ "java/lang/invoke/VarHandle" ∧ (parseMethodDescriptor k_X9_soonOrNever.1.desc).map (fun d => d.parameters.length) = some 3 := ⟨rfl, by decide +kernel, by decide +kernel, by decide +kernel⟩
def k_X9_worth : zM := (yX9_worth, cX9_worth, 7, some .int)
theorem de_X9_worth : k_X9_worth.1.cls = k_X9_worth.1.cls ∧ k_X9_worth.1.cls ≠ "java/lang/invoke/MethodHandle" ∧ k_X9_worth.1.cls ≠ "java/lang/invoke/VarHandle" ∧ (parseMethodDescriptor k_X9_worth.1.desc).map (fun d => d.parameters.length) = some 4 := ⟨rfl, by decide +kernel, by decide +kernel, by decide +kernel⟩
def k_X9_isSooner : zM := (yX9_isSooner, cX9_isSooner, 8, some .boolean)
theorem de_X9_isSooner : k_X9_isSooner.1.cls = k_X9_isSooner.1.cls ∧ k_X9_isSooner.1.cls ≠ "java/lang/invoke/MethodHandle" ∧ k_X9_isSooner.1.cls ≠ "java/lang/invoke/VarHandle" ∧ (parseMethodDescriptor k_X9_isSooner.1.desc).map (fun d => d.parameters.length) = some 6 := ⟨rfl, by decide +kernel, by decide +kernel, by decide +kernel⟩
def k_X9_higher : zM := (yX9_higher, cX9_higher, 9, some .int)
theorem de_X9_higher : k_X9_higher.1.cls = k_X9_higher.1.cls ∧ k_X9_higher.1.cls ≠ "java/lang/invoke/MethodHandle" ∧ k_X9_higher.1.cls ≠ "java/lang/invoke/VarHandle" ∧ (parseMethodDescriptor k_X9_higher.1.desc).map (fun d => d.parameters.length) = some 4 := ⟨rfl, by decide +kernel, by decide +kernel, by decide +kernel⟩
def k_X9_must : zM := (yX9_must, cX9_must, 6, some .int)
theorem de_X9_must : k_X9_must.1.cls = k_X9_must.1.cls ∧ k_X9_must.1.cls ≠ "java/lang/invoke/MethodHandle" ∧ k_X9_must.1.cls ≠ "java/lang/invoke/VarHandle" ∧ (parseMethodDescriptor k_X9_must.1.desc).map (fun d => d.parameters.length) = some 3 := ⟨rfl, by decide +kernel, by decide +kernel, by decide +kernel⟩
def k_X9_move : zM := (yX9_move, cX9_move, 2, some .int)
theorem de_X9_move : k_X9_move.1.cls = k_X9_move.1.cls ∧ k_X9_move.1.cls ≠ "java/lang/invoke/MethodHandle" ∧ k_X9_move.1.cls ≠ "java/lang/invoke/VarHandle" ∧ (parseMethodDescriptor k_X9_move.1.desc).map (fun d => d.parameters.length) = some 1 := ⟨rfl, by decide +kernel, by decide +kernel, by decide +kernel⟩
def k_X9_moves : zM := (yX9_moves, cX9_moves, 6, some .int)
theorem de_X9_moves : k_X9_moves.1.cls = k_X9_moves.1.cls ∧ k_X9_moves.1.cls ≠ "java/lang/invoke/MethodHandle" ∧ k_X9_moves.1.cls ≠ "java/lang/invoke/VarHandle" ∧ (parseMethodDescriptor k_X9_moves.1.desc).map (fun d => d.parameters.length) = some 3 := ⟨rfl, by decide +kernel, by decide +kernel, by decide +kernel⟩
def k_X9_drop : zM := (yX9_drop, cX9_drop, 2, some .int)
theorem de_X9_drop : k_X9_drop.1.cls = k_X9_drop.1.cls ∧ k_X9_drop.1.cls ≠ "java/lang/invoke/MethodHandle" ∧ k_X9_drop.1.cls ≠ "java/lang/invoke/VarHandle" ∧ (parseMethodDescriptor k_X9_drop.1.desc).map (fun d => d.parameters.length) = some 0 := ⟨rfl, by decide +kernel, by decide +kernel, by decide +kernel⟩
def k_X9_doesMove : zM := (yX9_doesMove, cX9_doesMove, 3, some .boolean)
theorem de_X9_doesMove : k_X9_doesMove.1.cls = k_X9_doesMove.1.cls ∧ k_X9_doesMove.1.cls ≠ "java/lang/invoke/MethodHandle" ∧ k_X9_doesMove.1.cls ≠ "java/lang/invoke/VarHandle" ∧ (parseMethodDescriptor k_X9_doesMove.1.desc).map (fun d => d.parameters.length) = some 1 := ⟨rfl, by decide +kernel, by decide +kernel, by decide +kernel⟩
def k_X9_goPlan : zM := (yX9_goPlan, cX9_goPlan, 5, some .int)
theorem de_X9_goPlan : k_X9_goPlan.1.cls = k_X9_goPlan.1.cls ∧ k_X9_goPlan.1.cls ≠ "java/lang/invoke/MethodHandle" ∧ k_X9_goPlan.1.cls ≠ "java/lang/invoke/VarHandle" ∧ (parseMethodDescriptor k_X9_goPlan.1.desc).map (fun d => d.parameters.length) = some 3 := ⟨rfl, by decide +kernel, by decide +kernel, by decide +kernel⟩
def k_X9_judge : zM := (yX9_judge, cX9_judge, 6, some .int)
theorem de_X9_judge : k_X9_judge.1.cls = k_X9_judge.1.cls ∧ k_X9_judge.1.cls ≠ "java/lang/invoke/MethodHandle" ∧ k_X9_judge.1.cls ≠ "java/lang/invoke/VarHandle" ∧ (parseMethodDescriptor k_X9_judge.1.desc).map (fun d => d.parameters.length) = some 4 := ⟨rfl, by decide +kernel, by decide +kernel, by decide +kernel⟩
def k_X9_wet : zM := (yX9_wet, cX9_wet, 6, some .int)
theorem de_X9_wet : k_X9_wet.1.cls = k_X9_wet.1.cls ∧ k_X9_wet.1.cls ≠ "java/lang/invoke/MethodHandle" ∧ k_X9_wet.1.cls ≠ "java/lang/invoke/VarHandle" ∧ (parseMethodDescriptor k_X9_wet.1.desc).map (fun d => d.parameters.length) = some 3 := ⟨rfl, by decide +kernel, by decide +kernel, by decide +kernel⟩
def k_X9_chance : zM := (yX9_chance, cX9_chance, 5, some .int)
theorem de_X9_chance : k_X9_chance.1.cls = k_X9_chance.1.cls ∧ k_X9_chance.1.cls ≠ "java/lang/invoke/MethodHandle" ∧ k_X9_chance.1.cls ≠ "java/lang/invoke/VarHandle" ∧ (parseMethodDescriptor k_X9_chance.1.desc).map (fun d => d.parameters.length) = some 2 := ⟨rfl, by decide +kernel, by decide +kernel, by decide +kernel⟩
def k_X9_mark : zM := (yX9_mark, cX9_mark, 2, some .int)
theorem de_X9_mark : k_X9_mark.1.cls = k_X9_mark.1.cls ∧ k_X9_mark.1.cls ≠ "java/lang/invoke/MethodHandle" ∧ k_X9_mark.1.cls ≠ "java/lang/invoke/VarHandle" ∧ (parseMethodDescriptor k_X9_mark.1.desc).map (fun d => d.parameters.length) = some 1 := ⟨rfl, by decide +kernel, by decide +kernel, by decide +kernel⟩
def k_X9_unmark : zM := (yX9_unmark, cX9_unmark, 2, some .int)
theorem de_X9_unmark : k_X9_unmark.1.cls = k_X9_unmark.1.cls ∧ k_X9_unmark.1.cls ≠ "java/lang/invoke/MethodHandle" ∧ k_X9_unmark.1.cls ≠ "java/lang/invoke/VarHandle" ∧ (parseMethodDescriptor k_X9_unmark.1.desc).map (fun d => d.parameters.length) = some 0 := ⟨rfl, by decide +kernel, by decide +kernel, by decide +kernel⟩
def k_X9_old : zM := (yX9_old, cX9_old, 6, some .int)
theorem de_X9_old : k_X9_old.1.cls = k_X9_old.1.cls ∧ k_X9_old.1.cls ≠ "java/lang/invoke/MethodHandle" ∧ k_X9_old.1.cls ≠ "java/lang/invoke/VarHandle" ∧ (parseMethodDescriptor k_X9_old.1.desc).map (fun d => d.parameters.length) = some 1 := ⟨rfl, by decide +kernel, by decide +kernel, by decide +kernel⟩
def k_X9_isBody : zM := (yX9_isBody, cX9_isBody, 2, some .boolean)
theorem de_X9_isBody : k_X9_isBody.1.cls = k_X9_isBody.1.cls ∧ k_X9_isBody.1.cls ≠ "java/lang/invoke/MethodHandle" ∧ k_X9_isBody.1.cls ≠ "java/lang/invoke/VarHandle" ∧ (parseMethodDescriptor k_X9_isBody.1.desc).map (fun d => d.parameters.length) = some 1 := ⟨rfl, by decide +kernel, by decide +kernel, by decide +kernel⟩
def k_X9_kindOf : zM := (yX9_kindOf, cX9_kindOf, 2, some .int)
theorem de_X9_kindOf : k_X9_kindOf.1.cls = k_X9_kindOf.1.cls ∧ k_X9_kindOf.1.cls ≠ "java/lang/invoke/MethodHandle" ∧ k_X9_kindOf.1.cls ≠ "java/lang/invoke/VarHandle" ∧ (parseMethodDescriptor k_X9_kindOf.1.desc).map (fun d => d.parameters.length) = some 1 := ⟨rfl, by decide +kernel, by decide +kernel, by decide +kernel⟩
def k_X9_body : zM := (yX9_body, cX9_body, 2, some .int)
theorem de_X9_body : k_X9_body.1.cls = k_X9_body.1.cls ∧ k_X9_body.1.cls ≠ "java/lang/invoke/MethodHandle" ∧ k_X9_body.1.cls ≠ "java/lang/invoke/VarHandle" ∧ (parseMethodDescriptor k_X9_body.1.desc).map (fun d => d.parameters.length) = some 1 := ⟨rfl, by decide +kernel, by decide +kernel, by decide +kernel⟩
def k_X9_above : zM := (yX9_above, cX9_above, 1, some .int)
theorem de_X9_above : k_X9_above.1.cls ≠ "java/lang/invoke/MethodHandle" ∧ k_X9_above.1.cls ≠ "java/lang/invoke/VarHandle" ∧ (parseMethodDescriptor k_X9_above.1.desc).map (fun d => d.parameters.length) = some 1 := ⟨by decide +kernel, by decide +kernel, by decide +kernel⟩
def k_X9_begins : zM := (yX9_begins, cX9_begins, 2, none)
theorem de_X9_begins : k_X9_begins.1.cls = k_X9_begins.1.cls ∧ k_X9_begins.1.cls ≠ "java/lang/invoke/MethodHandle" ∧ k_X9_begins.1.cls ≠ "java/lang/invoke/VarHandle" ∧ (parseMethodDescriptor k_X9_begins.1.desc).map (fun d => d.parameters.length) = some 1 := ⟨rfl, by decide +kernel, by decide +kernel, by decide +kernel⟩
def k_X9_goesAs : zM := (yX9_goesAs, cX9_goesAs, 3, some .int)
theorem de_X9_goesAs : k_X9_goesAs.1.cls = k_X9_goesAs.1.cls ∧ k_X9_goesAs.1.cls ≠ "java/lang/invoke/MethodHandle" ∧ k_X9_goesAs.1.cls ≠ "java/lang/invoke/VarHandle" ∧ (parseMethodDescriptor k_X9_goesAs.1.desc).map (fun d => d.parameters.length) = some 2 := ⟨rfl, by decide +kernel, by decide +kernel, by decide +kernel⟩
def k_X9_waitsAs : zM := (yX9_waitsAs, cX9_waitsAs, 4, some .int)
theorem de_X9_waitsAs : k_X9_waitsAs.1.cls = k_X9_waitsAs.1.cls ∧ k_X9_waitsAs.1.cls ≠ "java/lang/invoke/MethodHandle" ∧ k_X9_waitsAs.1.cls ≠ "java/lang/invoke/VarHandle" ∧ (parseMethodDescriptor k_X9_waitsAs.1.desc).map (fun d => d.parameters.length) = some 2 := ⟨rfl, by decide +kernel, by decide +kernel, by decide +kernel⟩
def k_X9_wetsAs : zM := (yX9_wetsAs, cX9_wetsAs, 4, some .int)
theorem de_X9_wetsAs : k_X9_wetsAs.1.cls = k_X9_wetsAs.1.cls ∧ k_X9_wetsAs.1.cls ≠ "java/lang/invoke/MethodHandle" ∧ k_X9_wetsAs.1.cls ≠ "java/lang/invoke/VarHandle" ∧ (parseMethodDescriptor k_X9_wetsAs.1.desc).map (fun d => d.parameters.length) = some 2 := ⟨rfl, by decide +kernel, by decide +kernel, by decide +kernel⟩
def k_X9_tellsAs : zM := (yX9_tellsAs, cX9_tellsAs, 4, some .int)
theorem de_X9_tellsAs : k_X9_tellsAs.1.cls = k_X9_tellsAs.1.cls ∧ k_X9_tellsAs.1.cls ≠ "java/lang/invoke/MethodHandle" ∧ k_X9_tellsAs.1.cls ≠ "java/lang/invoke/VarHandle" ∧ (parseMethodDescriptor k_X9_tellsAs.1.desc).map (fun d => d.parameters.length) = some 2 := ⟨rfl, by decide +kernel, by decide +kernel, by decide +kernel⟩
def k_X9_act : zM := (yX9_act, cX9_act, 4, some .int)
theorem de_X9_act : k_X9_act.1.cls = k_X9_act.1.cls ∧ k_X9_act.1.cls ≠ "java/lang/invoke/MethodHandle" ∧ k_X9_act.1.cls ≠ "java/lang/invoke/VarHandle" ∧ (parseMethodDescriptor k_X9_act.1.desc).map (fun d => d.parameters.length) = some 3 := ⟨rfl, by decide +kernel, by decide +kernel, by decide +kernel⟩
def k_X9_trace : zM := (yX9_trace, cX9_trace, 2, some .int)
theorem de_X9_trace : k_X9_trace.1.cls = k_X9_trace.1.cls ∧ k_X9_trace.1.cls ≠ "java/lang/invoke/MethodHandle" ∧ k_X9_trace.1.cls ≠ "java/lang/invoke/VarHandle" ∧ (parseMethodDescriptor k_X9_trace.1.desc).map (fun d => d.parameters.length) = some 1 := ⟨rfl, by decide +kernel, by decide +kernel, by decide +kernel⟩
def k_X9_isShelf : zM := (yX9_isShelf, cX9_isShelf, 1, some .boolean)
theorem de_X9_isShelf : k_X9_isShelf.1.cls ≠ "java/lang/invoke/MethodHandle" ∧ k_X9_isShelf.1.cls ≠ "java/lang/invoke/VarHandle" ∧ (parseMethodDescriptor k_X9_isShelf.1.desc).map (fun d => d.parameters.length) = some 1 := ⟨by decide +kernel, by decide +kernel, by decide +kernel⟩
def k_X9_keep : zM := (yX9_keep, cX9_keep, 3, some .int)
theorem de_X9_keep : k_X9_keep.1.cls = k_X9_keep.1.cls ∧ k_X9_keep.1.cls ≠ "java/lang/invoke/MethodHandle" ∧ k_X9_keep.1.cls ≠ "java/lang/invoke/VarHandle" ∧ (parseMethodDescriptor k_X9_keep.1.desc).map (fun d => d.parameters.length) = some 2 := ⟨rfl, by decide +kernel, by decide +kernel, by decide +kernel⟩
def k_X9_row : zM := (yX9_row, cX9_row, 5, some .int)
theorem de_X9_row : k_X9_row.1.cls = k_X9_row.1.cls ∧ k_X9_row.1.cls ≠ "java/lang/invoke/MethodHandle" ∧ k_X9_row.1.cls ≠ "java/lang/invoke/VarHandle" ∧ (parseMethodDescriptor k_X9_row.1.desc).map (fun d => d.parameters.length) = some 3 := ⟨rfl, by decide +kernel, by decide +kernel, by decide +kernel⟩
def k_X9_refusal : zM := (yX9_refusal, cX9_refusal, 3, some .int)
theorem de_X9_refusal : k_X9_refusal.1.cls = k_X9_refusal.1.cls ∧ k_X9_refusal.1.cls ≠ "java/lang/invoke/MethodHandle" ∧ k_X9_refusal.1.cls ≠ "java/lang/invoke/VarHandle" ∧ (parseMethodDescriptor k_X9_refusal.1.desc).map (fun d => d.parameters.length) = some 2 := ⟨rfl, by decide +kernel, by decide +kernel, by decide +kernel⟩
def k_X9_asSort : zM := (yX9_asSort, cX9_asSort, 3, some .long)
theorem de_X9_asSort : k_X9_asSort.1.cls ≠ "java/lang/invoke/MethodHandle" ∧ k_X9_asSort.1.cls ≠ "java/lang/invoke/VarHandle" ∧ (parseMethodDescriptor k_X9_asSort.1.desc).map (fun d => d.parameters.length) = some 2 := ⟨by decide +kernel, by decide +kernel, by decide +kernel⟩
def k_X9_put : zM := (yX9_put, cX9_put, 6, some .int)
theorem de_X9_put : k_X9_put.1.cls = k_X9_put.1.cls ∧ k_X9_put.1.cls ≠ "java/lang/invoke/MethodHandle" ∧ k_X9_put.1.cls ≠ "java/lang/invoke/VarHandle" ∧ (parseMethodDescriptor k_X9_put.1.desc).map (fun d => d.parameters.length) = some 3 := ⟨rfl, by decide +kernel, by decide +kernel, by decide +kernel⟩
def k_X9_element : zM := (yX9_element, cX9_element, 3, some .long)
theorem de_X9_element : k_X9_element.1.cls = k_X9_element.1.cls ∧ k_X9_element.1.cls ≠ "java/lang/invoke/MethodHandle" ∧ k_X9_element.1.cls ≠ "java/lang/invoke/VarHandle" ∧ (parseMethodDescriptor k_X9_element.1.desc).map (fun d => d.parameters.length) = some 2 := ⟨rfl, by decide +kernel, by decide +kernel, by decide +kernel⟩
def k_X9_shift : zM := (yX9_shift, cX9_shift, 7, some .int)
theorem de_X9_shift : k_X9_shift.1.cls = k_X9_shift.1.cls ∧ k_X9_shift.1.cls ≠ "java/lang/invoke/MethodHandle" ∧ k_X9_shift.1.cls ≠ "java/lang/invoke/VarHandle" ∧ (parseMethodDescriptor k_X9_shift.1.desc).map (fun d => d.parameters.length) = some 5 := ⟨rfl, by decide +kernel, by decide +kernel, by decide +kernel⟩
def k_X9_taken : zM := (yX9_taken, cX9_taken, 4, some .int)
theorem de_X9_taken : k_X9_taken.1.cls = k_X9_taken.1.cls ∧ k_X9_taken.1.cls ≠ "java/lang/invoke/MethodHandle" ∧ k_X9_taken.1.cls ≠ "java/lang/invoke/VarHandle" ∧ (parseMethodDescriptor k_X9_taken.1.desc).map (fun d => d.parameters.length) = some 2 := ⟨rfl, by decide +kernel, by decide +kernel, by decide +kernel⟩
def k_X9_count : zM := (yX9_count, cX9_count, 2, some .int)
theorem de_X9_count : k_X9_count.1.cls = k_X9_count.1.cls ∧ k_X9_count.1.cls ≠ "java/lang/invoke/MethodHandle" ∧ k_X9_count.1.cls ≠ "java/lang/invoke/VarHandle" ∧ (parseMethodDescriptor k_X9_count.1.desc).map (fun d => d.parameters.length) = some 1 := ⟨rfl, by decide +kernel, by decide +kernel, by decide +kernel⟩
def k_J7_fill_d0a16 : zM := (yJ7_fill_d0a16, cJ7_fill_d0a16, 5, none)
theorem de_J7_fill_d0a16 : k_J7_fill_d0a16.1.cls ≠ "java/lang/invoke/MethodHandle" ∧ k_J7_fill_d0a16.1.cls ≠ "java/lang/invoke/VarHandle" ∧ (parseMethodDescriptor k_J7_fill_d0a16.1.desc).map (fun d => d.parameters.length) = some 2 := ⟨by decide +kernel, by decide +kernel, by decide +kernel⟩
def k_J7_fill_53178 : zM := (yJ7_fill_53178, cJ7_fill_53178, 4, none)
theorem de_J7_fill_53178 : k_J7_fill_53178.1.cls ≠ "java/lang/invoke/MethodHandle" ∧ k_J7_fill_53178.1.cls ≠ "java/lang/invoke/VarHandle" ∧ (parseMethodDescriptor k_J7_fill_53178.1.desc).map (fun d => d.parameters.length) = some 2 := ⟨by decide +kernel, by decide +kernel, by decide +kernel⟩
