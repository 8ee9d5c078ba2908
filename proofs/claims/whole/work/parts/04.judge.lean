/-! ===== the judgement over the small machine ===== -/
abbrev zM : Type := MethodName × ByteArray × Nat × Option FieldType
abbrev zX : Type := Program × Launch × Env × Room × State × MethodId × Array Value × List Frame × Method × Code × (State → Prop) × (Nat → Nat) × va_G × (Nat → ClassId) × (Nat → Prop) × (Nat × Nat)
abbrev xp (X : zX) : Program := X.1
abbrev xl (X : zX) : Launch := X.2.1
abbrev xe (X : zX) : Env := X.2.2.1
abbrev xR (X : zX) : Room := X.2.2.2.1
abbrev xs (X : zX) : State := X.2.2.2.2.1
abbrev xm (X : zX) : MethodId := X.2.2.2.2.2.1
abbrev xa (X : zX) : Array Value := X.2.2.2.2.2.2.1
abbrev xb (X : zX) : List Frame := X.2.2.2.2.2.2.2.1
abbrev xh (X : zX) : Method := X.2.2.2.2.2.2.2.2.1
abbrev xc (X : zX) : Code := X.2.2.2.2.2.2.2.2.2.1
abbrev xQ (X : zX) : State → Prop := X.2.2.2.2.2.2.2.2.2.2.1
abbrev xA (X : zX) : Nat → Nat := X.2.2.2.2.2.2.2.2.2.2.2.1
abbrev xD (X : zX) : va_G := X.2.2.2.2.2.2.2.2.2.2.2.2.1
abbrev xT (X : zX) : Nat → ClassId := X.2.2.2.2.2.2.2.2.2.2.2.2.2.1
abbrev xF (X : zX) : Nat → Prop := X.2.2.2.2.2.2.2.2.2.2.2.2.2.2.1
abbrev xk (X : zX) : Nat × Nat := X.2.2.2.2.2.2.2.2.2.2.2.2.2.2.2
/-- from the frame at pc, with these locals, this stack and this heap, the machine comes to what the context wants -/
def zJ (X : zX) (pc : Nat) (lv : List (Option zV)) (st : List zV) (h : zH) : Prop :=
  ∀ (H : Heap) (locs : List Loc) (ls : Array Slot), va_P (xD X) vwCl (wld (xT X) (xA X) h) H → va_D (xF X) (wld (xT X) (xA X) h) → va_S (xF X) (xs X).heap H locs → lvx (xc X).maxLocals (xA X) ls lv →
    W (xp X) (xl X) (xe X) (xR X) (xs X) (xm X) (xa X) (xb X) (xh X) (xc X) H locs (xk X).1 (xk X).2 (xQ X) (F0 (xm X) pc ls (st.map (cvV (xA X))))
/-- the two tables of Bodies, in cells outside the world -/
def zST (A : Nat → Nat) (F : Nat → Prop) (U : State) (H : Heap) : Prop :=
  (va_Z "RoundPoint$Bodies" "ABOVE" "[I" (.ref (A 90)) F U H ∧ va_T .int (A 90) 7 (fun j => .int (i32 ((ztbl 90).getD j 0))) F U H) ∧ (va_Z "RoundPoint$Bodies" "OWN" "[I" (.ref (A 91)) F U H ∧ va_T .int (A 91) 28 (fun j => .int (i32 ((ztbl 91).getD j 0))) F U H) ∧ va_Nw (.methodLinkNest RX0 28 yX8_within RX8) U
def frA (A : Nat → Nat) : Nat → Prop := fun q => ∃ c, c < NC ∧ q = A c
/-- the context of a method's body -/
def zCx (X : zX) (d : Nat) (k : zM) : Prop :=
  (xp X).tables.exec = Jvm.exec ∧ (xc X).code = k.2.1 ∧ (xc X).maxLocals = k.2.2.1 ∧ (xs X).vm.findClass k.1.cls = some (xm X).cls ∧ (∀ w ∈ BIG, w.before (xa X) (xs X) = true) ∧ va_K (xD X) vwCl (tysT (xT X)) (xs X) ∧ zST (xA X) (xF X) (xs X) (xs X).heap ∧ d ≤ (xR X).frames ∧ 64 * d ≤ (xR X).locals ∧ (xk X).1 ≤ (xR X).cells ∧ (xk X).2 ≤ (xR X).slots ∧ (∀ q, (xs X).heap.size ≤ q → ¬ frA (xA X) q → xF X q → xF X q)
abbrev zQ : Type := Option zV → zH → Prop
/-- at a return that fits, with what the contract wants, all is done -/
def zRo (k : zM) (pc : Nat) (o : Option zV) : Prop :=
  (decode k.2.1 pc = .ok (.ireturn, 1) ∧ ∃ x : Int, o = some (sI x) ∧ (k.2.2.2 = some .int ∨ (k.2.2.2 = some .boolean ∧ (x = 0 ∨ x = 1)))) ∨
  (decode k.2.1 pc = .ok (.lreturn, 1) ∧ ∃ x : Int64, o = some (sL x) ∧ k.2.2.2 = some .long) ∨
  (decode k.2.1 pc = .ok (.areturn, 1) ∧ ∃ a : Nat, o = some (sR a) ∧ k.2.2.2 = some (.array .int)) ∨
  (decode k.2.1 pc = .ok (.return_, 1) ∧ o = none ∧ k.2.2.2 = none)
def zEx (X : zX) (k : zM) (Q : zQ) : Prop := ∀ (pc : Nat) (o : Option zV) (lv : List (Option zV)) (h : zH), Q o h → zRo k pc o → zJ X pc lv o.toList h
/-- a method's contract: with these arguments and this heap it returns, and Q holds of its answer and its heap; d calls deep at most -/
def zPre (D : va_G) (T : Nat → ClassId) (A : Nat → Nat) (h : zH) (U : State) : Prop := va_P D vwCl (wld T A h) U.heap ∧ va_K D vwCl (tysT T) U ∧ va_D (frA A) (wld T A h) ∧ zST A (frA A) U U.heap
def zQQ (D : va_G) (T : Nat → ClassId) (A : Nat → Nat) (ret : Option FieldType) (Q : zQ) : Array Value → State → Outcome → State → Prop := match ret with
  | none => va_Qv (fun h : zH => Q none h) (fun h t => va_P D vwCl (wld T A h) t.heap) (frA A)
  | some .long => va_Ql (fun r (h : zH) => Q (some (sL r)) h) (fun h t => va_P D vwCl (wld T A h) t.heap) (frA A)
  | some (.array _) => va_Qr (fun u : zH × Nat => Q (some (sR u.2)) u.1) (fun u a t => a = A u.2 ∧ va_P D vwCl (wld T A u.1) t.heap) (frA A)
  | some _ => va_Qi (fun r (u : zH × Int) => r = i32 u.2 ∧ Q (some (sI u.2)) u.1) (fun u t => va_P D vwCl (wld T A u.1) t.heap) (frA A)
def zrm (d : Nat) : Room := { frames := d, cells := 0, slots := 0, locals := 64 * d }
def zws (k : zM) : List Cond := Cond.code k.1 k.2.1 k.2.2.1 k.2.2.2 :: BIG
def zC (d : Nat) (k : zM) (vs : List zV) (h : zH) (Q : zQ) : Prop :=
  ∀ (l : Launch) (D : va_G) (T : Nat → ClassId) (A : Nat → Nat), Met l k.1 (zws k) (zrm d) (va_Pc (vs.map (cvV A)) (zPre D T A h)) (zQQ D T A k.2.2.2 Q) 0 0 (frA A)
theorem wld_D {T : Nat → ClassId} {A : Nat → Nat} {h h' : zH} {F G : Nat → Prop} (hD : va_D F (wld T A h)) (hG : ∀ c, c < NC → G (A c)) : va_D G (wld T A h') := by
  have hk : ∀ (g : zH) (i : Nat) (q : Nat × va_E), (wld T A g)[i]? = some q → i < NC ∧ q.1 = A i := by
    intro g i q hq
    have hi : i < NC := by
      have := (List.getElem?_eq_some_iff.mp hq).1
      unfold wld at this
      rwa [List.length_map, List.length_range] at this
    rw [wld_at hi] at hq
    exact ⟨hi, by rw [← Option.some.inj hq]⟩
  refine ⟨fun i j p q hi hj e => ?_, fun i q hi => ?_⟩
  · obtain ⟨a1, a2⟩ := hk _ _ _ hi
    obtain ⟨b1, b2⟩ := hk _ _ _ hj
    exact hD.1 i j _ _ (wld_at a1) (wld_at b1) (by show A i = A j; rw [← a2, ← b2]; exact e)
  · obtain ⟨a1, a2⟩ := hk _ _ _ hi
    rw [a2]
    exact hG i a1
theorem wld_F {T : Nat → ClassId} {A : Nat → Nat} {h : zH} {F : Nat → Prop} (hD : va_D F (wld T A h)) {c : Nat} (hc : c < NC) : F (A c) := hD.2 c _ (wld_at hc)
set_option maxHeartbeats 4000000 in
/-- a contract out of the judgement at its entry -/
theorem zC_of {d : Nat} {k : zM} {vs : List zV} {h : zH} {Q : zQ} (hy : plainName k.1.cls = true) (hsz : wsz vs ≤ k.2.2.1) (body : ∀ X, zCx X d k → zEx X k Q → zJ X 0 (entL vs) [] h) : zC d k vs h Q := by
  intro l D T A
  refine Met.ofW (cc := k.2.1) (maxL := k.2.2.1) (ret := k.2.2.2) hy rfl ?_
  intro p e s m args below meth c s₁ B hml hv
  obtain ⟨rfl, hP, hK, hD, hST⟩ := hv
  have hts := atoms_spec (ws := zws k) B.pre
  have hr := B.returns
  have hlocks := B.notSynchronized
  have J := body (p, l, e, (headSpec (zws k) (zrm d)).room, s, m, (vs.map (cvV A)).toArray, below, meth, c, MQ below (zQQ D T A k.2.2.2 Q) (vs.map (cvV A)).toArray s 0 0 (frA A), A, D, T, frA A, (0, 0))
    ⟨B.exec, B.bytes, hml, findClass_of_methodNamed B.named, fun w hw => hts w (List.mem_cons_of_mem _ hw), hK, hST, Nat.le_refl _, Nat.le_refl _, Nat.zero_le _, Nat.zero_le _, fun _ _ _ h => h⟩ ?_
  · rw [lg_entry_eq]
    refine J s.heap [] _ hP hD va_S.rf ?_
    have hl := lv_entry (vs.map (cvV A)) (n := k.2.2.1) (by rw [wsz_sl]; exact hsz)
    exact ⟨by rw [show (xc (p, l, e, (headSpec (zws k) (zrm d)).room, s, m, (vs.map (cvV A)).toArray, below, meth, c, MQ below (zQQ D T A k.2.2.2 Q) (vs.map (cvV A)).toArray s 0 0 (frA A), A, D, T, frA A, (0, 0))) = c from rfl, hml]; exact hl.1, hl.2.1, fun i v hv => hl.2.2 (i, cvV A v) (by have := entL_args A vs 0 i v hv; rwa [Nat.zero_add] at this)⟩
  · intro pc o lv h' hQ hro H locs ls hP hD hS hl
    rcases hro with ⟨hd, x, rfl, hret⟩ | ⟨hd, x, rfl, hret⟩ | ⟨hd, a, rfl, hret⟩ | ⟨hd, rfl, hret⟩
    · rcases hret with hret | ⟨hret, h01⟩
      · exact W.iret B.exec B.bytes (by rw [hr, hret]) (fun t ht hW => by
          show zQQ D T A k.2.2.2 Q _ _ _ _
          rw [hret]
          exact ⟨⟨i32 x, (h', x), rfl, ⟨rfl, hQ⟩, (show va_P D vwCl (wld T A h') t.heap by rw [ht]; exact hP)⟩, va_S.F hS ht⟩) hS.2.2 hd hlocks
      · exact W.zret B.exec B.bytes (by rw [hr, hret]) (by rcases h01 with rfl | rfl <;> rfl) (fun t ht hW => by
          show zQQ D T A k.2.2.2 Q _ _ _ _
          rw [hret]
          exact ⟨⟨i32 x, (h', x), rfl, ⟨rfl, hQ⟩, (show va_P D vwCl (wld T A h') t.heap by rw [ht]; exact hP)⟩, va_S.F hS ht⟩) hS.2.2 hd hlocks
    · exact W.lret B.exec B.bytes (by rw [hr, hret]) (fun t ht hW => by
          show zQQ D T A k.2.2.2 Q _ _ _ _
          rw [hret]
          exact ⟨⟨x, h', rfl, hQ, (show va_P D vwCl (wld T A h') t.heap by rw [ht]; exact hP)⟩, va_S.F hS ht⟩) hS.2.2 hd hlocks
    · exact W.aret B.exec B.bytes (by rw [hr, hret]) (Or.inr ⟨_, rfl⟩) (Or.inr ⟨_, rfl⟩) (fun t ht hW => by
          show zQQ D T A k.2.2.2 Q _ _ _ _
          rw [hret]
          exact ⟨⟨(h', a), A a, rfl, hQ, rfl, (show va_P D vwCl (wld T A h') t.heap by rw [ht]; exact hP)⟩, va_S.F hS ht⟩) hS.2.2 hd hlocks
    · exact W.vret B.exec B.bytes (by rw [hr, hret]) (fun t ht hW => by
          show zQQ D T A k.2.2.2 Q _ _ _ _
          rw [hret]
          exact ⟨⟨h', rfl, hQ, (show va_P D vwCl (wld T A h') t.heap by rw [ht]; exact hP)⟩, va_S.F hS ht⟩) hS.2.2 hd hlocks
