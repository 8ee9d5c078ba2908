/-! ===== both sides tell of the same day ===== -/
theorem fstx_c {P P' : Nat → Int} {m : Int} : ∀ f k, (∀ j, k ≤ j → j < k + f → P j = P' j) → fstx P m f k = fstx P' m f k
  | 0, _, _ => rfl
  | f + 1, k, hj => by
    unfold fstx
    rw [hj k (Nat.le_refl _) (by omega), fstx_c f (k + 1) (fun j a b => hj j (by omega) (by omega))]
theorem tideF_c {pt pt' P P' Q Q' : Nat → Int} {t : Nat} {m : Int} (ht : t < 10) (hok : TOK pt P Q t) (h1 : pt t = pt' t) (h2 : ∀ i, i < 120 → P i = P' i) (h3 : ∀ i, i < 120 → Q i = Q' i) : tideF pt P Q t m = tideF pt' P' Q' t m := by
  obtain ⟨hn, -, -⟩ := hok
  have hf : fstx (fun j => P (12 * t + j)) m (pt t).toNat 0 = fstx (fun j => P' (12 * t + j)) m (pt t).toNat 0 := fstx_c _ _ (fun j _ b => h2 _ (by omega))
  have hs := fstx_spec (fun j => P' (12 * t + j)) m (pt t).toNat 0
  unfold tideF
  rw [hf, ← h1]
  generalize fstx (fun j => P' (12 * t + j)) m (pt t).toNat 0 = r at hs ⊢
  by_cases c : r = 0
  · rw [if_pos c, if_pos c, h3 _ (by omega)]
  · rw [if_neg c, if_neg c]
    by_cases c2 : r = (pt t).toNat
    · rw [if_pos c2, if_pos c2, h3 _ (by omega)]
    · rw [if_neg c2, if_neg c2, h3 _ (by omega), h3 _ (by omega), h2 _ (by omega), h2 _ (by omega)]
theorem seaF_c {pt pt' P P' Q Q' li li' ea ea' : Nat → Int} {t w : Nat} {m : Int} (ht : t < 10) (hok : TOK pt P Q t) (h1 : pt t = pt' t) (h2 : ∀ i, i < 120 → P i = P' i) (h3 : ∀ i, i < 120 → Q i = Q' i) (h4 : li w = li' w) (h5 : ea w = ea' w) : seaF pt P Q li ea t w m = seaF pt' P' Q' li' ea' t w m := by
  unfold seaF
  rw [tideF_c ht hok h1 h2 h3, h4, h5]
/-- the height of the sea in a set of winds, by the class's rows -/
def hiQ (h : zH) (t s n : Nat) (m : Nat) : Int := hiF (-1000) (seaC h t m) s n
theorem hiR_Q {h : zH} {t s n : Nat} (hV : VV h) (hE : Ieq h) (ht : (t : Int) < h.1 2 0) (hn : h.1 2 4 = n) (hs : 1 ≤ s ∧ s < 2 ^ n) (m : Nat) : hiR h t s n m = hiQ h t s n m := by
  obtain ⟨⟨hv1, hv2, -⟩, hVt, hVw, -⟩ := hV
  obtain ⟨-, e1, e2, e3, -⟩ := hE
  have same : ∀ w, w < n → seaR h t m w = seaC h t m w := fun w hw => (seaF_c (m := (m : Int)) (by omega) (hVt t ht) (e1 t (by omega)).symm (fun i hi => (e2 i hi).1.symm) (fun i hi => (e2 i hi).2.symm) (e3 w (by omega)).1.symm (e3 w (by omega)).2.1.symm).symm
  have bd : ∀ w, w < n → -99 ≤ seaC h t m w ∧ seaC h t m w ≤ 1098 := fun w hw => seaF_b (hVt t ht) (hVw w (by omega)).1
  unfold hiR hiQ
  rw [hiF_ext n (fun w hw _ => same w hw)]
  refine hiF_base n ?_ (fun w hw _ => by have := bd w hw; omega)
  refine Classical.byContradiction (fun q => ?_)
  have z : ∀ k, k ≤ n → s % 2 ^ k = 0 := by
    intro k
    induction k with
    | zero => intro _; exact Nat.mod_one s
    | succ k ih =>
      intro hk
      have h1 := ih (by omega)
      have h2 : ¬ s / 2 ^ k % 2 = 1 := fun z => q ⟨k, by omega, z⟩
      rw [Nat.pow_succ, Nat.mod_mul, h1, show s / 2 ^ k % 2 = 0 by omega, Nat.mul_zero]
  have := z n (Nat.le_refl _)
  rw [Nat.mod_eq_of_lt hs.2] at this
  omega
/-- the steps that can be made, by the class's rows: fs ls be the ways' hours and heights, nw where none may wait -/
def SQ (h : zH) (σ t s n N : Nat) (fs ls be : Nat → Int) (nw : Int) : Nat → Nat → Nat → Nat → Nat → Nat → Prop :=
  stS N (h.1 26) (h.1 27) (tkC h σ) (fun w m y => goP (fs w) (ls w) (tkC h σ w y) (hiQ h t s n) (be w) m) (fun p m _ => ¬ (p : Int) = nw ∧ wtP (hiQ h t s n) (h.1 25 p) m)
theorem goP_c {fs ls tk b : Int} {hi hi' : Nat → Int} {m : Nat} (he : ∀ j, j < 1440 → hi j = hi' j) : goP fs ls tk hi b m ↔ goP fs ls tk hi' b m := by
  unfold goP
  constructor
  · rintro ⟨a, b, c⟩
    exact ⟨a, b, fun j d e => by rw [← he j (by omega)]; exact c j d e⟩
  · rintro ⟨a, b, c⟩
    exact ⟨a, b, fun j d e => by rw [he j (by omega)]; exact c j d e⟩
theorem wtP_c {sf : Int} {hi hi' : Nat → Int} {m : Nat} (he : ∀ j, j < 1440 → hi j = hi' j) : wtP hi sf m ↔ wtP hi' sf m := by
  unfold wtP
  constructor
  · rintro ⟨a, b, c⟩
    rw [he m (by omega)] at b
    rw [he (m + 1) (by omega)] at c
    exact ⟨a, b, c⟩
  · rintro ⟨a, b, c⟩
    rw [← he m (by omega)] at b
    rw [← he (m + 1) (by omega)] at c
    exact ⟨a, b, c⟩
theorem stS_c {N : Nat} {one one' other other' : Nat → Int} {tk tk' : Nat → Nat → Int} {go go' wt wt' : Nat → Nat → Nat → Prop} {p m y p' m' y' : Nat}
    (h1 : ∀ w, w < N → one w = one' w) (h2 : ∀ w, w < N → other w = other' w) (h3 : ∀ w, w < N → tk w y = tk' w y) (h4 : ∀ w, w < N → (go w m y ↔ go' w m y)) (h5 : wt p m y ↔ wt' p m y) :
    stS N one other tk go wt p m y p' m' y' ↔ stS N one' other' tk' go' wt' p m y p' m' y' := by
  unfold stS wtS wyS
  rw [h5]
  constructor
  · rintro (a | ⟨w, hw, a⟩)
    · exact Or.inl a
    · rw [h1 w hw, h2 w hw, h3 w hw, h4 w hw] at a
      exact Or.inr ⟨w, hw, a⟩
  · rintro (a | ⟨w, hw, a⟩)
    · exact Or.inl a
    · rw [← h1 w hw, ← h2 w hw, ← h3 w hw, ← h4 w hw] at a
      exact Or.inr ⟨w, hw, a⟩
def sameS (P : Nat) (S S' : Nat → Nat → Nat → Nat → Nat → Nat → Prop) : Prop := ∀ p m y p' m' y', p < P → y < 4 → (S p m y p' m' y' ↔ S' p m y p' m' y')
theorem SC_Q {h g : zH} {σ t s n N P : Nat} {fs ls be : Nat → Int} {nw : Int} (hP : P ≤ 12) (e25 : g.1 25 = h.1 25) (e26 : g.1 26 = h.1 26) (e27 : g.1 27 = h.1 27) (e28 : g.1 28 = h.1 28) (e32 : g.1 32 = h.1 32) (hf : ∀ w, w < N → g.1 30 w = fs w) (hl : ∀ w, w < N → g.1 31 w = ls w) (hb : ∀ w, w < N → g.1 29 w = be w) (hh : ∀ m, m < 1440 → g.1 34 m = hiQ h t s n m) (hw : ∀ p y : Nat, p < P → y < 4 → (lb (g.2 4 6) (4 * p + y) = true ↔ ¬ (p : Int) = nw)) : sameS P (SC g σ N) (SQ h σ t s n N fs ls be nw) := by
  intro p m y p' m' y' hp hy
  unfold SC SQ
  have tke : tkC g σ = tkC h σ := by
    unfold tkC
    rw [e28, e32]
  refine stS_c (fun w _ => by rw [e26]) (fun w _ => by rw [e27]) (fun w _ => by rw [tke]) (fun w q => ?_) ?_
  · unfold goC
    rw [tke, hf w q, hl w q, hb w q]
    exact goP_c hh
  · unfold wtC
    rw [e25, wtP_c hh, hw p y hp hy]
    exact And.comm
theorem SR_Q {h : zH} {σ t s n N P : Nat} (hV : VV h) (hE : Ieq h) (hσ : σ < 4) (ht : (t : Int) < h.1 2 0) (hn : h.1 2 4 = n) (hN : h.1 2 10 = N) (hP : h.1 2 8 = P) (hs : 1 ≤ s ∧ s < 2 ^ n) : sameS P (SR h σ N (hiR h t s n) (beR h)) (SQ h σ t s n N (fsR h) (lsR h) (beR h) (h.1 52 34)) := by
  intro p m y p' m' y' hp hy
  have hh : ∀ m, m < 1440 → hiR h t s n m = hiQ h t s n m := fun m _ => hiR_Q hV hE ht hn hs m
  obtain ⟨⟨hv1, hv2, hv3, hv4, -⟩, -⟩ := hV
  obtain ⟨-, -, -, -, e4, e5, e6⟩ := hE
  have tke : ∀ w, w < N → tkR h σ w y = tkC h σ w y := fun w q => by
    unfold tkR tkC
    rw [(e5 w (by omega)).2.2.1, e6 σ (by omega)]
  unfold SR SQ
  refine stS_c (fun w q => (e5 w (by omega)).1) (fun w q => (e5 w (by omega)).2.1) tke (fun w q => ?_) ?_
  · unfold goR
    rw [tke w q]
    exact goP_c hh
  · unfold wtR
    rw [wtP_c hh, e4 p (by omega)]
theorem SQ_c {h g : zH} {σ t s n N P : Nat} {fs ls be fs' ls' be' : Nat → Int} {nw : Int} (he : ∀ c, 19 ≤ c → c ≤ 32 → c ≠ 29 → c ≠ 30 → c ≠ 31 → g.1 c = h.1 c) (hf : ∀ w, w < N → fs w = fs' w) (hl : ∀ w, w < N → ls w = ls' w) (hb : ∀ w, w < N → be w = be' w) : sameS P (SQ g σ t s n N fs ls be nw) (SQ h σ t s n N fs' ls' be' nw) := by
  intro p m y p' m' y' _ _
  unfold SQ
  have hh : hiQ g t s n = hiQ h t s n := by
    unfold hiQ seaC
    rw [he 19 (by omega) (by omega) (by omega) (by omega) (by omega), he 20 (by omega) (by omega) (by omega) (by omega) (by omega), he 21 (by omega) (by omega) (by omega) (by omega) (by omega), he 22 (by omega) (by omega) (by omega) (by omega) (by omega), he 23 (by omega) (by omega) (by omega) (by omega) (by omega)]
  have tke : tkC g σ = tkC h σ := by
    unfold tkC
    rw [he 28 (by omega) (by omega) (by omega) (by omega) (by omega), he 32 (by omega) (by omega) (by omega) (by omega) (by omega)]
  rw [hh, tke, he 25 (by omega) (by omega) (by omega) (by omega) (by omega), he 26 (by omega) (by omega) (by omega) (by omega) (by omega), he 27 (by omega) (by omega) (by omega) (by omega) (by omega)]
  exact stS_c (fun w _ => rfl) (fun w _ => rfl) (fun w _ => rfl) (fun w q => by rw [hf w q, hl w q, hb w q]) Iff.rfl
theorem Sok_c {P : Nat} {S S' : Nat → Nat → Nat → Nat → Nat → Nat → Prop} (hc : sameS P S S') (hS : Sok S P) : Sok S' P := fun p m y p' m' y' a b c => hS p m y p' m' y' a b ((hc p m y p' m' y' a b).mpr c)
theorem sameS_s {P : Nat} {S S' : Nat → Nat → Nat → Nat → Nat → Nat → Prop} (hc : sameS P S S') : sameS P S' S := fun p m y p' m' y' a b => (hc p m y p' m' y' a b).symm
theorem sameS_t {P : Nat} {S S' T : Nat → Nat → Nat → Nat → Nat → Nat → Prop} (a : sameS P S S') (b : sameS P S' T) : sameS P S T := fun p m y p' m' y' c d => (a p m y p' m' y' c d).trans (b p m y p' m' y' c d)
theorem RdS_le {P p0 m0 p m y : Nat} {S S' : Nat → Nat → Nat → Nat → Nat → Nat → Prop} (hc : ∀ p m y p' m' y', p < P → y < 4 → S p m y p' m' y' → S' p m y p' m' y') (hS : Sok S P) (hp : p0 < P) (h : RdS S p0 m0 p m y) : RdS S' p0 m0 p m y := by
  refine (h (fun p m y => p < P ∧ y < 4 ∧ RdS S' p0 m0 p m y) ⟨hp, by omega, RdS_0 _ _ _⟩ ?_).2.2
  rintro p m y p' m' y' ⟨a, b, c⟩ hs
  have := hS p m y p' m' y' a b hs
  exact ⟨this.2.2.1, this.2.2.2, RdS_s c (hc _ _ _ _ _ _ a b hs)⟩
theorem RdS_c {P p0 m0 p m y : Nat} {S S' : Nat → Nat → Nat → Nat → Nat → Nat → Prop} (hc : sameS P S S') (hS : Sok S P) (hp : p0 < P) : RdS S p0 m0 p m y ↔ RdS S' p0 m0 p m y := ⟨RdS_le (fun p m y p' m' y' a b c => (hc p m y p' m' y' a b).mp c) hS hp, RdS_le (fun p m y p' m' y' a b c => (hc p m y p' m' y' a b).mpr c) (Sok_c hc hS) hp⟩
theorem soonR_c {P p0 m0 to e : Nat} {r : Int} {S S' : Nat → Nat → Nat → Nat → Nat → Nat → Prop} (hc : sameS P S S') (hS : Sok S P) (hp : p0 < P) (h : soonR S p0 m0 to e r) : soonR S' p0 m0 to e r := by
  have k := fun m y => @RdS_c P p0 m0 to m y S S' hc hS hp
  rcases h with ⟨a, b⟩ | ⟨m, a, b, ⟨y, c⟩, d⟩
  · exact Or.inl ⟨a, fun m y q z => b m y q ((k m y).mpr z)⟩
  · exact Or.inr ⟨m, a, b, ⟨y, (k m y).mp c⟩, fun m' y q z => d m' y q ((k m' y).mpr z)⟩
theorem BkS_c {P to dk p m y : Nat} {S S' : Nat → Nat → Nat → Nat → Nat → Nat → Prop} (hc : sameS P S S') (hS : Sok S P) (hto : to < P) (hp : p < P) (hy : y < 4) : BkS S to dk p m y ↔ BkS S' to dk p m y := by
  have go : ∀ {T T' : Nat → Nat → Nat → Nat → Nat → Nat → Prop}, sameS P T T' → Sok T P → BkS T to dk p m y → BkS T' to dk p m y := by
    intro T T' hc hS h
    refine h (fun p m y => p < P → y < 4 → BkS T' to dk p m y) (fun m y a _ _ => BkS_0 a) ?_ hp hy
    intro p m y p' m' y' hs hm ih a b
    have := hS p m y p' m' y' a b hs
    exact BkS_s ((hc _ _ _ _ _ _ a b).mp hs) hm (ih this.2.2.1 this.2.2.2)
  exact ⟨go hc hS, go (sameS_s hc) (Sok_c hc hS)⟩
theorem lastR_c {P f to dn dk : Nat} {r : Int} {S S' : Nat → Nat → Nat → Nat → Nat → Nat → Prop} (hc : sameS P S S') (hS : Sok S P) (hf : f < P) (hto : to < P) (h : lastR S f to dn dk r) : lastR S' f to dn dk r := by
  have k := fun m => @BkS_c P to dk f m 0 S S' hc hS hto hf (by omega)
  rcases h with ⟨a, b⟩ | ⟨m, a, b, b2, c, d⟩
  · exact Or.inl ⟨a, fun m q q2 z => b m q q2 ((k m).mpr z)⟩
  · exact Or.inr ⟨m, a, b, b2, (k m).mp c, fun m' q q2 z => d m' q q2 ((k m').mpr z)⟩
