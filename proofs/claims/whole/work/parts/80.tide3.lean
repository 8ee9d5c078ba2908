theorem pr_tide {d : Nat} (hd : 6 ≤ d) : Pair2 d k_X8_tide k_X9_tide [] := fun h hI => by
  obtain ⟨t1, t2, t3⟩ := id hI.1.2.2.2.1
  obtain ⟨⟨hv1, hv2, hv3, hv4, hv5⟩, hVt, hVw, hVp, hVy, hVh, hVs⟩ := id hI.1.1
  obtain ⟨⟨x1, x2, x3, x4, x5, x6⟩, e1, e2, e3, e4, e5, e6⟩ := id hI.1.2.1
  obtain ⟨L, hL⟩ : ∃ L : Nat, h.1 1 1 = L := ⟨(h.1 1 1).toNat, by omega⟩
  have hB57 : ∀ i : Nat, i < 120 → 0 ≤ h.1 57 i ∧ h.1 57 i ≤ 255 := fun i hi => by rw [(t3 i hi).1]; exact (t3 i hi).2
  have same := rdF_c (B := h.1 57) (B' := h.1 16) (L := L) (by omega) (fun i hi => (t3 i hi).1) 12 0 (-1)
  have tape : ∀ f : zH, f.1 16 = h.1 16 → f.1 57 = h.1 57 → f.1 1 1 = 0 → f.1 52 7 = 0 → Itape f := fun f f16 f57 f1 f7 => by
    unfold Itape
    rw [f16, f57, f1, f7]
    exact ⟨rfl, by omega, t3⟩
  refine zC_mono (c_X8_tide hd h L hv1 hL (by omega) (fun i hi => (t3 i hi).2)) ?_
  rintro o g ⟨r, rfl, ⟨q, rfl, rfl⟩ | ⟨q, q2, ft, rfl⟩ | ⟨q, q2, gd, rfl⟩⟩
  · refine ⟨_, rfl, zC_mono (c_X9_tide hd g L (by omega) (by omega) (by omega) hB57) ?_⟩
    rintro o g' ⟨r, rfl, ⟨y, rfl, rfl⟩ | ⟨y, -⟩ | ⟨y, -⟩⟩
    · exact ⟨rfl, hI⟩
    · omega
    · omega
  · obtain ⟨m1, m2, m3⟩ := ft
    have g57 : g.1 57 = h.1 57 := m1 57 (by omega) (by omega) (by omega)
    have g52 : g.1 52 = h.1 52 := m1 52 (by omega) (by omega) (by omega)
    refine ⟨_, rfl, zC_mono (c_X9_tide hd g L (by rw [g52]; omega) (by rw [g52]; omega) (by omega) (by rw [g57]; exact hB57)) ?_⟩
    rintro o f ⟨r, rfl, y⟩
    unfold tdN at y
    rw [g57, same, g52] at y
    rcases y with ⟨y, -⟩ | ⟨y, -, ⟨n1, n2, n3, n4⟩, rfl⟩ | ⟨y, y2, -⟩
    · omega
    · have ec : ∀ c, c ≠ 1 → c ≠ 17 → c ≠ 18 → c ≠ 52 → c ≠ 61 → c ≠ 62 → f.1 c = h.1 c := fun c a b c1 c2 c3 c4 => (n1 c c2 c3 c4).trans (m1 c a b c1)
      have e52 : ∀ x, x ≠ 7 → x ≠ 14 → x ≠ 15 → f.1 52 x = h.1 52 x := fun x a b c => (n4 x a b c).trans (by rw [g52])
      refine ⟨rfl, Inv_tp hI ?_ ?_ ?_ ?_ (fun c q => ec c (by simp [tpB] at q; omega) (by simp [tpB] at q; omega) (by simp [tpB] at q; omega) (by simp [tpB] at q; omega) (by simp [tpB] at q; omega) (by simp [tpB] at q; omega)) (fun c q => (n2 c q).trans (m2 c q)) ⟨by rw [ec 2 (by omega) (by omega) (by omega) (by omega) (by omega) (by omega)], by rw [ec 2 (by omega) (by omega) (by omega) (by omega) (by omega) (by omega)]⟩ (fun i a _ b c => e52 i a b c)⟩
      · have hV := hI.1.1
        unfold VV Vn Vt Vw Vp Vy Vh Vs at *
        rw [ec 2 (by omega) (by omega) (by omega) (by omega) (by omega) (by omega), ec 19 (by omega) (by omega) (by omega) (by omega) (by omega) (by omega), ec 20 (by omega) (by omega) (by omega) (by omega) (by omega) (by omega), ec 21 (by omega) (by omega) (by omega) (by omega) (by omega) (by omega), ec 22 (by omega) (by omega) (by omega) (by omega) (by omega) (by omega), ec 23 (by omega) (by omega) (by omega) (by omega) (by omega) (by omega), ec 24 (by omega) (by omega) (by omega) (by omega) (by omega) (by omega), ec 25 (by omega) (by omega) (by omega) (by omega) (by omega) (by omega), ec 26 (by omega) (by omega) (by omega) (by omega) (by omega) (by omega), ec 27 (by omega) (by omega) (by omega) (by omega) (by omega) (by omega), ec 28 (by omega) (by omega) (by omega) (by omega) (by omega) (by omega), ec 29 (by omega) (by omega) (by omega) (by omega) (by omega) (by omega), ec 30 (by omega) (by omega) (by omega) (by omega) (by omega) (by omega), ec 31 (by omega) (by omega) (by omega) (by omega) (by omega) (by omega), ec 32 (by omega) (by omega) (by omega) (by omega) (by omega) (by omega)]
        exact hV
      · have hE := hI.1.2.1
        unfold Ieq at *
        rw [ec 2 (by omega) (by omega) (by omega) (by omega) (by omega) (by omega), ec 19 (by omega) (by omega) (by omega) (by omega) (by omega) (by omega), ec 20 (by omega) (by omega) (by omega) (by omega) (by omega) (by omega), ec 21 (by omega) (by omega) (by omega) (by omega) (by omega) (by omega), ec 22 (by omega) (by omega) (by omega) (by omega) (by omega) (by omega), ec 23 (by omega) (by omega) (by omega) (by omega) (by omega) (by omega), ec 24 (by omega) (by omega) (by omega) (by omega) (by omega) (by omega), ec 25 (by omega) (by omega) (by omega) (by omega) (by omega) (by omega), ec 26 (by omega) (by omega) (by omega) (by omega) (by omega) (by omega), ec 27 (by omega) (by omega) (by omega) (by omega) (by omega) (by omega), ec 28 (by omega) (by omega) (by omega) (by omega) (by omega) (by omega), ec 29 (by omega) (by omega) (by omega) (by omega) (by omega) (by omega), ec 30 (by omega) (by omega) (by omega) (by omega) (by omega) (by omega), ec 31 (by omega) (by omega) (by omega) (by omega) (by omega) (by omega), ec 32 (by omega) (by omega) (by omega) (by omega) (by omega) (by omega), ec 53 (by omega) (by omega) (by omega) (by omega) (by omega) (by omega), ec 58 (by omega) (by omega) (by omega) (by omega) (by omega) (by omega), ec 59 (by omega) (by omega) (by omega) (by omega) (by omega) (by omega), ec 60 (by omega) (by omega) (by omega) (by omega) (by omega) (by omega), ec 63 (by omega) (by omega) (by omega) (by omega) (by omega) (by omega), ec 64 (by omega) (by omega) (by omega) (by omega) (by omega) (by omega), ec 65 (by omega) (by omega) (by omega) (by omega) (by omega) (by omega), ec 66 (by omega) (by omega) (by omega) (by omega) (by omega) (by omega), ec 67 (by omega) (by omega) (by omega) (by omega) (by omega) (by omega), ec 68 (by omega) (by omega) (by omega) (by omega) (by omega) (by omega), e52 8 (by omega) (by omega) (by omega), e52 16 (by omega) (by omega) (by omega), e52 20 (by omega) (by omega) (by omega), e52 21 (by omega) (by omega) (by omega), e52 25 (by omega) (by omega) (by omega), e52 26 (by omega) (by omega) (by omega)]
        exact hE
      · exact Isea_c hI.1.2.2.1 (fun c a b => ec c (by omega) (by omega) (by omega) (by omega) (by omega) (by omega)) (ec 2 (by omega) (by omega) (by omega) (by omega) (by omega) (by omega)) ⟨congrFun (ec 3 (by omega) (by omega) (by omega) (by omega) (by omega) (by omega)) 3, congrFun (ec 3 (by omega) (by omega) (by omega) (by omega) (by omega) (by omega)) 4⟩ (ec 33 (by omega) (by omega) (by omega) (by omega) (by omega) (by omega)) (ec 34 (by omega) (by omega) (by omega) (by omega) (by omega) (by omega))
      · exact tape f (ec 16 (by omega) (by omega) (by omega) (by omega) (by omega) (by omega)) (ec 57 (by omega) (by omega) (by omega) (by omega) (by omega) (by omega)) (by rw [n1 1 (by omega) (by omega) (by omega)]; exact m3) n3
    · exact absurd y2 q2
  · obtain ⟨m1, m2, m3, m4, m5, m6⟩ := gd
    have g57 : g.1 57 = h.1 57 := m1 57 (by omega) (by omega) (by omega) (by omega) (by omega) (by omega) (by omega)
    have g52 : g.1 52 = h.1 52 := m1 52 (by omega) (by omega) (by omega) (by omega) (by omega) (by omega) (by omega)
    refine ⟨_, rfl, zC_mono (c_X9_tide hd g L (by rw [g52]; omega) (by rw [g52]; omega) (by omega) (by rw [g57]; exact hB57)) ?_⟩
    rintro o f ⟨r, rfl, y⟩
    unfold tdN at y
    rw [g57, same, g52, x1] at y
    obtain ⟨l1, l2⟩ := rdF_ok (h.1 16) L 12 0 (-1) q2
    have l3 := rdF_len (h.1 16) L 12 0 (-1)
    generalize (rdF (h.1 16) L 12 0 (-1)).2 = l at *
    rcases y with ⟨y, -⟩ | ⟨y, y2, -⟩ | ⟨y, y2, ⟨n1, n2, n3, n4, n5, n6⟩, rfl⟩
    · omega
    · exact absurd q2 y2
    · obtain ⟨T, hT⟩ : ∃ T : Nat, h.1 2 0 = T := ⟨(h.1 2 0).toNat, by omega⟩
      have tT : (h.1 2 0).toNat = T := by omega
      rw [tT] at m5 m6 n5 n6
      have ec : ∀ c, c ≠ 1 → c ≠ 2 → (c < 17 ∨ 21 < c) → c ≠ 52 → (c < 58 ∨ 62 < c) → f.1 c = h.1 c := fun c a b c1 c2 c3 => (n1 c c2 (by omega) (by omega) (by omega) (by omega) (by omega)).trans (m1 c a b (by omega) (by omega) (by omega) (by omega) (by omega))
      have e52 : ∀ x, x ≠ 7 → x ≠ 8 → x ≠ 14 → x ≠ 15 → f.1 52 x = h.1 52 x := fun x a b c c2 => (n4 x a b c c2).trans (by rw [g52])
      have f2 : f.1 2 = g.1 2 := n1 2 (by omega) (by omega) (by omega) (by omega) (by omega) (by omega)
      have f20 : f.1 2 0 = T + 1 := by rw [f2]; exact m5
      have f2i : ∀ i, i ≠ 0 → f.1 2 i = h.1 2 i := fun i hi => by rw [f2]; exact m4 i hi
      rw [m1 58 (by omega) (by omega) (by omega) (by omega) (by omega) (by omega) (by omega), m1 59 (by omega) (by omega) (by omega) (by omega) (by omega) (by omega) (by omega), m1 60 (by omega) (by omega) (by omega) (by omega) (by omega) (by omega) (by omega)] at n6
      rw [← n1 19 (by omega) (by omega) (by omega) (by omega) (by omega) (by omega), ← n1 20 (by omega) (by omega) (by omega) (by omega) (by omega) (by omega), ← n1 21 (by omega) (by omega) (by omega) (by omega) (by omega) (by omega)] at m6
      refine ⟨rfl, Inv_tp hI ?_ ?_ ?_ ?_ (fun c q => ec c (by simp [tpB] at q; omega) (by simp [tpB] at q; omega) (by simp [tpB] at q; omega) (by simp [tpB] at q; omega) (by simp [tpB] at q; omega)) (fun c q => (n2 c q).trans (m2 c q)) ⟨f2i 8 (by omega), f2i 10 (by omega)⟩ (fun i a b c c2 => e52 i a b c c2)⟩
      · refine ⟨⟨by omega, by rw [f2i 4 (by omega)]; exact hv2, by rw [f2i 8 (by omega)]; exact hv3, by rw [f2i 10 (by omega)]; exact hv4, by rw [f2i 18 (by omega), f2i 19 (by omega)]; exact hv5⟩, fun t ht => ?_, ?_, ?_, ?_, ?_, ?_⟩
        · by_cases e : t = T
          · subst e
            exact tdRow_new m6 l1 l3 l2
          · obtain ⟨o1, o2, o3⟩ := tdRow_old m6 (show t < T by omega)
            exact TOK_c2 (hVt t (by omega)) o1 o2 o3
        · unfold Vw at *
          rw [f2i 4 (by omega), ec 22 (by omega) (by omega) (by omega) (by omega) (by omega), ec 23 (by omega) (by omega) (by omega) (by omega) (by omega), ec 24 (by omega) (by omega) (by omega) (by omega) (by omega)]
          exact hVw
        · unfold Vp at *
          rw [ec 25 (by omega) (by omega) (by omega) (by omega) (by omega)]
          exact hVp
        · unfold Vy at *
          rw [f2i 8 (by omega), f2i 10 (by omega), ec 26 (by omega) (by omega) (by omega) (by omega) (by omega), ec 27 (by omega) (by omega) (by omega) (by omega) (by omega), ec 28 (by omega) (by omega) (by omega) (by omega) (by omega)]
          exact hVy
        · unfold Vh at *
          rw [ec 29 (by omega) (by omega) (by omega) (by omega) (by omega), ec 30 (by omega) (by omega) (by omega) (by omega) (by omega), ec 31 (by omega) (by omega) (by omega) (by omega) (by omega)]
          exact hVh
        · unfold Vs at *
          rw [ec 32 (by omega) (by omega) (by omega) (by omega) (by omega)]
          exact hVs
      · refine ⟨⟨by rw [n5, f20], by rw [f2i 4 (by omega), e52 16 (by omega) (by omega) (by omega) (by omega)]; exact x2, by rw [f2i 8 (by omega), e52 20 (by omega) (by omega) (by omega) (by omega)]; exact x3, by rw [f2i 10 (by omega), e52 21 (by omega) (by omega) (by omega) (by omega)]; exact x4, by rw [f2i 18 (by omega), e52 25 (by omega) (by omega) (by omega) (by omega)]; exact x5, by rw [f2i 19 (by omega), e52 26 (by omega) (by omega) (by omega) (by omega)]; exact x6⟩, fun i hi => ?_, fun i hi => ?_, ?_, ?_, ?_, ?_⟩
        · rw [n6.1 i, m6.1 i, e1 i hi]
        · rw [n6.2.1 i, n6.2.2 i, m6.2.1 i, m6.2.2 i, (e2 i hi).1, (e2 i hi).2]
          exact ⟨rfl, rfl⟩
        · rw [ec 22 (by omega) (by omega) (by omega) (by omega) (by omega), ec 23 (by omega) (by omega) (by omega) (by omega) (by omega), ec 24 (by omega) (by omega) (by omega) (by omega) (by omega), ec 63 (by omega) (by omega) (by omega) (by omega) (by omega), ec 64 (by omega) (by omega) (by omega) (by omega) (by omega), ec 65 (by omega) (by omega) (by omega) (by omega) (by omega)]
          exact e3
        · rw [ec 25 (by omega) (by omega) (by omega) (by omega) (by omega), ec 53 (by omega) (by omega) (by omega) (by omega) (by omega)]
          exact e4
        · rw [ec 26 (by omega) (by omega) (by omega) (by omega) (by omega), ec 27 (by omega) (by omega) (by omega) (by omega) (by omega), ec 28 (by omega) (by omega) (by omega) (by omega) (by omega), ec 29 (by omega) (by omega) (by omega) (by omega) (by omega), ec 30 (by omega) (by omega) (by omega) (by omega) (by omega), ec 31 (by omega) (by omega) (by omega) (by omega) (by omega), ec 66 (by omega) (by omega) (by omega) (by omega) (by omega), ec 67 (by omega) (by omega) (by omega) (by omega) (by omega), ec 68 (by omega) (by omega) (by omega) (by omega) (by omega), ec 53 (by omega) (by omega) (by omega) (by omega) (by omega)]
          exact e5
        · rw [ec 32 (by omega) (by omega) (by omega) (by omega) (by omega), ec 53 (by omega) (by omega) (by omega) (by omega) (by omega)]
          exact e6
      · rcases hI.1.2.2.1 with z | ⟨t, s, n, a1, a2, a3, a4, a5, a6, a7, a8⟩
        · exact Or.inl (by rw [ec 3 (by omega) (by omega) (by omega) (by omega) (by omega)]; exact z)
        · obtain ⟨o1, o2, o3⟩ := tdRow_old m6 (show t < T by omega)
          refine Or.inr ⟨t, s, n, by rw [ec 3 (by omega) (by omega) (by omega) (by omega) (by omega)]; exact a1, by rw [ec 3 (by omega) (by omega) (by omega) (by omega) (by omega)]; exact a2, by rw [f2i 4 (by omega)]; exact a3, by omega, a5, a6, fun m hm => ?_, fun m hm => ?_⟩
          · rw [ec 33 (by omega) (by omega) (by omega) (by omega) (by omega), a7 m hm]
            exact tideF_c2 (hVt t a4) o1 o2 o3
          · rw [ec 34 (by omega) (by omega) (by omega) (by omega) (by omega), a8 m hm]
            have es : seaC h t m = seaC f t m := by
              funext w
              unfold seaC seaF
              rw [tideF_c2 (hVt t a4) o1 o2 o3, ec 22 (by omega) (by omega) (by omega) (by omega) (by omega), ec 23 (by omega) (by omega) (by omega) (by omega) (by omega)]
            rw [es]
      · exact tape f (ec 16 (by omega) (by omega) (by omega) (by omega) (by omega)) (ec 57 (by omega) (by omega) (by omega) (by omega) (by omega)) (by rw [n1 1 (by omega) (by omega) (by omega) (by omega) (by omega) (by omega)]; exact m3) n3
