/-! ===== CASE redeem ===== -/
theorem c_redeem : ∀ (a : Int) (σ : Mem), Inv σ → rg a → Pair mF_redeem mR_redeem [aI a] σ := by
  intro k σ hI ha
  obtain ⟨⟨m1, m2, m3, m4⟩, ⟨n1, n2, n3, n4⟩, -⟩ := hI.1.2.1
  have hR := hI.1.2.2.1
  have hV := hI.1.2.2.2
  obtain ⟨C1, C2, C3, C4, C5, C6⟩ := hI.2.1.2.2.2
  obtain ⟨⟨p1, p2, p3⟩, p4, -⟩ := hI.2.1.1
  have h73 := hV.n73
  have r1 := hR.1
  have pv := hV.W.2.2.2.2.2.2.2
  have ec : ∀ w, 0 ≤ w → w < 5 → 0 ≤ k → k < σ 81 73 → σ 38 (75 + k * 5 + w) = σ 81 (74 + 5 * k + w) := fun w w0 w1 k0 k1 => by
    have := hR.S.2.2.2 (5 * k + w) (by omega) (by omega)
    rw [show 75 + (5 * k + w) = 75 + k * 5 + w by omega, show 74 + (5 * k + w) = 74 + 5 * k + w by omega] at this
    exact this
  have ow : 0 ≤ k → k < σ 38 1 → (0 ≤ σ 38 (75 + k * 5 + 0) ∧ σ 38 (75 + k * 5 + 0) < 6) := fun k0 k1 => by
    have := (pv k k0 (by omega)).1
    rw [ec 0 (by decide) (by decide) k0 (by omega), Int.add_zero]; omega
  by_cases hx : (0 ≤ k ∧ k < σ 81 73) ∧ σ 81 (74 + 5 * k + 3) < σ 81 (60 + σ 81 (74 + 5 * k))
  · obtain ⟨⟨x1, x2⟩, x3⟩ := hx
    obtain ⟨v1, v2, v3, v4, v5, v6⟩ := pv k x1 x2
    have e0 := ec 0 (by decide) (by decide) x1 x2
    have e1 := ec 1 (by decide) (by decide) x1 x2
    have e2 := ec 2 (by decide) (by decide) x1 x2
    have e3 := ec 3 (by decide) (by decide) x1 x2
    rw [Int.add_zero (74 + 5 * k)] at e0
    generalize hown : σ 81 (74 + 5 * k) = own at *
    generalize hpay : σ 81 (74 + 5 * k + 1) = pay at *
    generalize hthg : σ 81 (74 + 5 * k + 2) = thg at *
    generalize hprc : σ 81 (74 + 5 * k + 3) = prc at *
    have mo : σ 38 (3 + own * 4 + 0) = σ 81 (60 + own) := Cor.eq hR.S (Cor.money (by omega))
    have mp : σ 38 (3 + pay * 4 + 0) = σ 81 (60 + pay) := Cor.eq hR.S (Cor.money (by omega))
    have fo : σ 38 (27 + own * 8 + thg) = σ 81 (8 * own + thg) := Cor.eq hR.S (Cor.fst (by omega) (by omega))
    have wo := hV.W.m594 (p := own) (by omega) (by omega)
    have wp_ := hV.W.m594 (p := pay) (by omega) (by omega)
    have qo := hV.W.f48 (Int.le_refl _) (i := 8 * own + thg) (by omega) (by omega)
    have s1 : RowS (pyC (σ 38) (3 + own * 4 + 0) (3 + pay * 4 + 0) (prc + 1)) (pyC (σ 81) (60 + own) (60 + pay) (prc + 1)) := hR.S.py (Cor.money (by omega)) (Cor.money (by omega))
    have w1 := hV.W.py (o := own) (p := pay) (v := prc + 1) (by omega) (by omega) (by omega) (by omega) (by omega)
    have l1 := hR.L.py (a := 3 + own * 4 + 0) (b := 3 + pay * 4 + 0) (a' := 60 + own) (b' := 60 + pay) (v := prc + 1) ⟨by omega, by omega⟩ ⟨by omega, by omega⟩ (by omega) (by omega)
    have l2 := hV.L.py (a := 60 + own) (b := 60 + pay) (v := prc + 1) (by omega) (by omega)
    have g1 := C1.py (a := 3 + own * 4 + 0) (b := 3 + pay * 4 + 0) (v := prc + 1) (by rw [mo]; exact ⟨by omega, by omega⟩) (by rw [fu_ne (by omega), mp]; exact ⟨by omega, by omega⟩)
    have g2 := C2.py (a := 60 + own) (b := 60 + pay) (v := prc + 1) ⟨by omega, by omega⟩ (by rw [fu_ne (by omega)]; exact ⟨by omega, by omega⟩)
    have c73 : pyC (σ 81) (60 + own) (60 + pay) (prc + 1) 73 = σ 81 73 := pyC_o (by omega) (by omega)
    have c1 : pyC (σ 38) (3 + own * 4 + 0) (3 + pay * 4 + 0) (prc + 1) 1 = σ 38 1 := pyC_o (by omega) (by omega)
    have ct : pyC (σ 81) (60 + own) (60 + pay) (prc + 1) (74 + 5 * k + 2) = thg := by rw [pyC_o (by omega) (by omega), hthg]
    have cc : pyC (σ 38) (3 + own * 4 + 0) (3 + pay * 4 + 0) (prc + 1) (75 + k * 5 + 2) = thg := by rw [pyC_o (by omega) (by omega), e2]
    have cf : pyC (σ 81) (60 + own) (60 + pay) (prc + 1) (8 * own + thg) = σ 81 (8 * own + thg) := pyC_o (by omega) (by omega)
    have cg : pyC (σ 38) (3 + own * 4 + 0) (3 + pay * 4 + 0) (prc + 1) (27 + own * 8 + thg) = σ 81 (8 * own + thg) := by rw [pyC_o (by omega) (by omega), fo]
    have ov : pyC (σ 81) (60 + own) (60 + pay) (prc + 1) (60 + own) = σ 81 (60 + own) - (prc + 1) := by unfold pyC; rw [fu_ne (by omega), fu_hit]
    have ov2 : pyC (σ 38) (3 + own * 4 + 0) (3 + pay * 4 + 0) (prc + 1) (3 + own * 4 + 0) = σ 81 (60 + own) - (prc + 1) := by unfold pyC; rw [fu_ne (by omega), fu_hit, mo]
    refine pair_act (v := σ 81 (60 + own) - (prc + 1)) (c' := hoC (pyC (σ 38) (3 + own * 4 + 0) (3 + pay * 4 + 0) (prc + 1)) k own) (m' := hoM (pyC (σ 81) (60 + own) (60 + pay) (prc + 1)) k own) hI ⟨by omega, by omega⟩ (RowR.of (s1.ho (by rw [c73]; exact ⟨x1, x2⟩) (by rw [c73]; omega) (by omega) (by rw [ct]; omega)) (l1.ho x1 (by rw [c1]; omega) (by omega) (by rw [ct]; omega) (by rw [cc]; omega))) (RowV.of (w1.ho (by rw [c73]; exact ⟨x1, x2⟩) (by omega) (by rw [ct]; omega)) (LogW.ho (k := k) l2 (by omega) (by rw [ct]; omega))) ?_ ?_ ?_ (fun τ hs => ?_)
    · unfold hoC; rw [cc, cg]; exact (g1.offu ⟨by omega, by omega⟩).dropC (by rw [fu_ne (by omega), c1]; exact ⟨by omega, by omega⟩)
    · unfold hoM; rw [ct, cf]; exact (g2.offu ⟨by omega, by omega⟩).dropM (by rw [fu_ne (by omega), c73]; exact ⟨by omega, by omega⟩)
    · refine bF_redeem_in (d := 994) ⟨ha, hI.cOK, (by omega), ow, fun _ => keepC (by omega) 996 (fun τ hs hk => ?_), fun q => absurd ⟨x1, (by omega), by rw [e0, e3, mo]; exact x3⟩ q⟩
      have e38 := hs.1 38 rfl
      rw [e38, e0]
      refine ⟨(by omega), (by omega), bSt_doRedeem_in (d := 994) ⟨(by omega), (by omega), (by omega), (by omega), (by omega), (by omega), ?_⟩⟩
      rw [e38, e0, e1, e3]
      refine bSt_pay_r37_in (d := 995) ⟨(by omega), (by omega), fun μ4 h4 => ⟨(by omega), (by omega), fun μ8 h8 => ?_⟩⟩
      have t8 : μ8 38 = pyC (σ 38) (3 + own * 4 + 0) (3 + pay * 4 + 0) (prc + 1) := by rw [h8, ups_row, h4, ups_row, e38]; rfl
      refine handOver37 994 (by rw [t8, c1]; omega) (by rw [t8, c1]; omega) (by omega) (by rw [t8, cc]; omega) ?_
      rw [t8]
      refine ⟨(by omega), (by omega), ?_, ?_, ?_, su_eq⟩
      · rw [su_eq]; unfold hoC
        rw [dropC_lo x1 (by omega) (by omega), cc, cg, fu_ne (by omega), ov2]
      · rw [h8, h4]; exact (((hs.mono (by decide) (by decide)).ups rfl (Or.inl (by decide))).ups rfl (Or.inl (by decide))).su rfl (by decide)
      · rw [su_ne (by decide), su_ne (by decide), h8, ups_ne (by decide), ups_ne (by decide), h4, ups_ne (by decide), ups_ne (by decide)]; exact hk
    · have q81 := hs.1 81 rfl
      have q64 := hs.1 64 rfl
      refine bR_redeem_in (d := 997) ⟨ha, by rw [q81]; exact ⟨by omega, by omega⟩, fun _ => ?_, fun q => absurd (by rw [q81]; omega) q⟩
      rw [q81, Int.add_zero, hown, hprc]
      refine ⟨(by omega), (by omega), (by omega), (by omega), (by omega), (by omega), ⟨by omega, by omega⟩, ⟨by omega, by omega⟩, fun _ => keepR (by rw [q64]; omega) 997 (fun ω gs gk => ?_), fun q => absurd q (by omega)⟩
      have e81 := gs.1 81 rfl
      rw [e81, q81, hown, hpay, hprc]
      refine ⟨(by omega), (by omega), bR_pay_in (d := 997) ⟨(by omega), (by omega), fun μ1 h1 => ⟨(by omega), (by omega), fun μ2 h2 => ?_⟩⟩⟩
      have t2 : μ2 81 = pyC (σ 81) (60 + own) (60 + pay) (prc + 1) := by rw [h2, ups_row, h1, ups_row, e81, q81]; rfl
      rw [t2, ct, cf]
      refine ⟨(by omega), (by omega), (by omega), (by omega), dropR 997 (by omega) ?_⟩
      rw [ups_row, t2]
      have hq : dropM (fu (pyC (σ 81) (60 + own) (60 + pay) (prc + 1)) (8 * own + thg) (σ 81 (8 * own + thg) + 1)) k = hoM (pyC (σ 81) (60 + own) (60 + pay) (prc + 1)) k own := by unfold hoM; rw [ct, cf]
      rw [hq]
      refine ⟨(by omega), (by omega), ?_, ?_, ?_, su_eq⟩
      · rw [su_eq, ← hq, dropM_lo x1 (by omega), fu_ne (by omega), ov]
      · rw [h2, h1]; exact ((((gs.mono (by decide) (by decide)).ups rfl (Or.inl (by decide))).ups rfl (Or.inl (by decide))).ups rfl (Or.inl (by decide))).su rfl (by decide)
      · rw [su_ne (by decide), su_ne (by decide), ups_ne (by decide), ups_ne (by decide), h2, ups_ne (by decide), ups_ne (by decide), h1, ups_ne (by decide), ups_ne (by decide)]; rw [q81] at gk; exact gk
  · refine pair_q (v := -1) hI (by decide) ?_ ?_
    · refine bF_redeem_in (d := 994) ⟨ha, hI.cOK, (by omega), ow, fun q => absurd ?_ hx, fun _ => ⟨rfl, rfl⟩⟩
      obtain ⟨q0, q1, q2⟩ := q
      have v1 := (pv k q0 (by omega)).1
      have e0 := ec 0 (by decide) (by decide) q0 (by omega)
      have e3 := ec 3 (by decide) (by decide) q0 (by omega)
      rw [Int.add_zero (74 + 5 * k)] at e0
      have mo : σ 38 (3 + σ 81 (74 + 5 * k) * 4 + 0) = σ 81 (60 + σ 81 (74 + 5 * k)) := Cor.eq hR.S (Cor.money (by omega))
      rw [e0, e3, mo] at q2
      exact ⟨⟨q0, (by omega)⟩, q2⟩
    · refine bR_redeem_in (d := 997) ⟨ha, ⟨by omega, by omega⟩, fun q => ?_, fun _ => ⟨rfl, rfl⟩⟩
      obtain ⟨v1, v2, v3, v4, v5, v6⟩ := pv k q.1 (by omega)
      have wo := hV.W.m594 (p := σ 81 (74 + 5 * k)) (by omega) (by omega)
      rw [Int.add_zero]
      exact ⟨(by omega), (by omega), (by omega), (by omega), (by omega), (by omega), ⟨by omega, by omega⟩, ⟨by omega, by omega⟩, fun z => absurd ⟨⟨q.1, (by omega)⟩, (by omega)⟩ hx, fun _ => ⟨rfl, rfl⟩⟩
