/-! ===== CASES image, back, undo; what is kept ===== -/
theorem cpy_at {f g : Int → Int} {s n i : Int} (h0 : 0 ≤ i) (h1 : i < n) : cpy f g s 0 n i = f (s + i) := by
  unfold cpy; rw [if_pos (by omega), show s + (i - 0) = s + i by omega]
theorem cpn_at {f g : Int → Int} {n i : Int} (h0 : 0 ≤ i) (h1 : i < n) : cpn f g 0 n i = f i := by
  unfold cpn; rw [if_pos (by omega), show i - 0 = i by omega]
theorem c_image : ∀ (σ : Mem), Inv σ → Pair mF_image mR_image [] σ := by
  intro σ hI
  obtain ⟨⟨m1, m2, m3, m4⟩, ⟨n1, n2, n3, n4⟩, -⟩ := hI.1.2.1
  have hR := hI.1.2.2.1
  have hV := hI.1.2.2.2
  obtain ⟨C1, C2, C3, C4, C5, C6⟩ := hI.2.1.2.2.2
  obtain ⟨⟨g1, g2⟩, -⟩ := hI.2.1.2.1
  by_cases hx : 0 < σ 64 37
  · refine bF_image_in (d := 997) ⟨⟨by omega, by omega⟩, fun _ => ⟨(by omega), ⟨⟨?_, ?_⟩, ?_⟩⟩, fun q => absurd (show (0 : Int) < σ 15 0 by omega) q⟩
    · rw [ups_ne (by decide), su_ne (by decide)]
    · rw [ups_ne (by decide), su_ne (by decide)]
    generalize hτ : ups (su σ 43 (cpy (σ 38) (σ 43) 0 0 175)) 11 13 1 = τ
    have hs : Sm σ τ [11, 43] [] := by rw [← hτ]; exact (Sm.refl.su rfl (by decide)).ups rfl (Or.inl (by decide))
    have e43 : τ 43 = cpy (σ 38) (σ 43) 0 0 175 := by rw [← hτ, ups_ne (by decide), su_eq]
    have e11 : τ 11 13 = 1 ∧ τ 11 14 = σ 11 14 := by rw [← hτ, ups_hit, ups_fn (by decide), su_ne (by decide)]; exact ⟨rfl, rfl⟩
    have q81 := hs.1 81 rfl
    have q64 := hs.1 64 rfl
    have q99 := hs.1 99 rfl
    refine bR_image_in (d := 998) ⟨by rw [q64]; exact ⟨by omega, by omega⟩, fun _ => ?_, fun q => absurd q (by rw [q64]; omega)⟩
    refine loop_cp (σ := τ) (a := 99) (f := σ 81) (o := 0) (n := 355) (E := fun i υ => Ev 999 mR_image 11 [vR 64, vI i] [] υ (fun r4 τ5 => oI r4 (fun w6 => (σ 38 0 = w6 ∧ rg (σ 38 0)) ∧ (τ5 0 = σ 0 ∧ τ5 1 = σ 1) ∧ Inv τ5))) (by decide) (fun i i0 i1 h => ?_) ?_
    · refine bR_image_11 (d := 998) ⟨⟨by omega, by omega⟩, fun q => absurd q (by omega), fun _ => ⟨i0, ?_⟩⟩
      rw [show (0 : Int) + i = i by omega] at h
      rw [su_ne (by decide), q81]; exact h
    · refine bR_image_11 (d := 998) ⟨by decide, fun _ => ?_, fun q => absurd q (by decide)⟩
      rw [su_ne (by decide), q81]
      have hs2 : Sm σ (ups (su τ 99 (cpn (σ 81) (τ 99) 0 355)) 64 63 1) [11, 43, 99, 64] [63] := ((hs.mono (by decide) (by decide)).su rfl (by decide)).ups rfl (Or.inr rfl)
      refine ⟨⟨hR.1.1, C1 0⟩, ⟨hs2.1 0 rfl, hs2.1 1 rfl⟩, ?_⟩
      have f43 : (ups (su τ 99 (cpn (σ 81) (τ 99) 0 355)) 64 63 1) 43 = cpy (σ 38) (σ 43) 0 0 175 := by rw [ups_ne (by decide), su_ne (by decide), e43]
      have f99 : (ups (su τ 99 (cpn (σ 81) (τ 99) 0 355)) 64 63 1) 99 = cpn (σ 81) (τ 99) 0 355 := by rw [ups_ne (by decide), su_eq]
      have f11 : (ups (su τ 99 (cpn (σ 81) (τ 99) 0 355)) 64 63 1) 11 = τ 11 := by rw [ups_ne (by decide), su_ne (by decide)]
      have f63 : (ups (su τ 99 (cpn (σ 81) (τ 99) 0 355)) 64 63 1) 64 63 = 1 := ups_hit
      generalize hυ : ups (su τ 99 (cpn (σ 81) (τ 99) 0 355)) 64 63 1 = υ at *
      refine hI.act (hs2.mono (by decide) (by decide)) (by rw [hs2.1 0 rfl]) (by rw [f11]; exact e11.2) (by rw [hs2.1 12 rfl]) ?_ ?_ (hI.2.1.1.sm hs2 (by decide) (by decide)) ⟨⟨?_, ?_⟩, fun _ => ⟨?_, ?_, ?_⟩⟩ ⟨?_, ?_, ?_, ?_, ?_, ?_⟩
      · rw [hs2.1 38 rfl, hs2.1 81 rfl]; exact hR
      · rw [hs2.1 81 rfl]; exact hV
      · rw [f11, f63]; exact e11.1
      · rw [f63]; exact Or.inr rfl
      · rw [hs2.2 37 rfl]; exact hx
      · rw [f43, f99]
        exact hR.cg hV.n73 hV.n114 (fun i i0 i1 => by rw [cpy_at i0 i1, Int.zero_add]) (fun i i0 i1 => cpn_at i0 i1)
      · rw [f99, hs2.2 37 rfl, hs2.2 38 rfl]
        exact hV.cg (fun i i0 i1 => cpn_at i0 i1)
      · rw [hs2.1 38 rfl]; exact C1
      · rw [hs2.1 81 rfl]; exact C2
      · rw [hs2.1 42 rfl]; exact C3
      · rw [hs2.1 90 rfl]; exact C4
      · rw [f43]; exact C1.ofcpy C5
      · rw [f99, q99]; exact C2.ofcpn C6
  · refine pair_q (v := -1) hI (by decide) ?_ ?_
    · exact bF_image_in (d := 997) ⟨⟨by omega, by omega⟩, fun q => absurd (show 0 < σ 64 37 by omega) hx, fun _ => ⟨rfl, rfl⟩⟩
    · exact bR_image_in (d := 998) ⟨⟨by omega, by omega⟩, fun q => absurd (show 0 < σ 64 37 by omega) hx, fun _ => ⟨rfl, rfl⟩⟩
theorem c_back : ∀ (σ : Mem), Inv σ → Pair mF_back mR_back [] σ := by
  intro σ hI
  obtain ⟨C1, C2, C3, C4, C5, C6⟩ := hI.2.1.2.2.2
  obtain ⟨⟨g1, g2⟩, g3⟩ := hI.2.1.2.1
  obtain ⟨⟨p1, p2, p3⟩, p4, p5⟩ := hI.2.1.1
  by_cases hx : σ 64 63 = 0
  · refine pair_q (v := -1) hI (by decide) ?_ ?_
    · exact bF_back_in (d := 997) ⟨⟨by omega, by omega⟩, fun q => absurd (show σ 11 13 = 0 by omega) q, fun _ => ⟨rfl, rfl⟩⟩
    · exact bR_back_in (d := 998) ⟨⟨by omega, by omega⟩, fun q => absurd hx q, fun _ => ⟨rfl, rfl⟩⟩
  · obtain ⟨gT, gR, gV⟩ := g3 (by omega)
    refine bF_back_in (d := 997) ⟨⟨by omega, by omega⟩, fun _ => bSt_takeOver_r37_r43_in (d := 997) ⟨(by omega), bPa_forget_in (d := 997) ⟨⟨?_, ?_⟩, ?_⟩⟩, fun q => absurd q (by omega)⟩
    · rw [ups_ne (by decide), su_ne (by decide)]
    · rw [ups_ne (by decide), su_ne (by decide)]
    have w0 : (ups (su σ 38 (cpy (σ 43) (σ 38) 0 0 175)) 41 2 0) 38 0 = σ 43 0 := by rw [ups_ne (by decide), su_eq, cpy_at (by decide) (by decide)]; rfl
    have e38 : (ups (su σ 38 (cpy (σ 43) (σ 38) 0 0 175)) 41 2 0) 38 = cpy (σ 43) (σ 38) 0 0 175 := by rw [ups_ne (by decide), su_eq]
    have e41 : (ups (su σ 38 (cpy (σ 43) (σ 38) 0 0 175)) 41 2 0) 41 2 = 0 ∧ (ups (su σ 38 (cpy (σ 43) (σ 38) 0 0 175)) 41 2 0) 41 1 = σ 41 1 := by
      rw [ups_hit, ups_fn (by decide), su_ne (by decide)]; exact ⟨rfl, rfl⟩
    have hs : Sm σ (ups (su σ 38 (cpy (σ 43) (σ 38) 0 0 175)) 41 2 0) [38, 41] [] := (Sm.refl.su rfl (by decide)).ups rfl (Or.inl (by decide))
    generalize hτ : ups (su σ 38 (cpy (σ 43) (σ 38) 0 0 175)) 41 2 0 = τ at *
    rw [w0]
    have q81 := hs.1 81 rfl
    have q64 := hs.1 64 rfl
    have q99 := hs.1 99 rfl
    refine bR_back_in (d := 998) ⟨by rw [q64]; exact ⟨by omega, by omega⟩, fun _ => ?_, fun q => absurd q (by rw [q64]; omega)⟩
    refine loop_cp (σ := τ) (a := 81) (f := σ 99) (o := 0) (n := 355) (E := fun i υ => Ev 999 mR_back 11 [vR 64, vI i] [] υ (fun r4 τ5 => oI r4 (fun w6 => (σ 43 0 = w6 ∧ rg (σ 43 0)) ∧ (τ5 0 = σ 0 ∧ τ5 1 = σ 1) ∧ Inv τ5))) (by decide) (fun i i0 i1 h => ?_) ?_
    · refine bR_back_11 (d := 998) ⟨⟨by omega, by omega⟩, fun q => absurd q (by omega), fun _ => ⟨i0, ?_⟩⟩
      rw [show (0 : Int) + i = i by omega] at h
      rw [su_ne (by decide), q99]; exact h
    · refine bR_back_11 (d := 998) ⟨by decide, fun _ => ?_, fun q => absurd q (by decide)⟩
      have hs2 : Sm σ (ups (su τ 81 (cpn (σ 99) (τ 81) 0 355)) 64 45 0) [38, 41, 81, 64] [45] := ((hs.mono (by decide) (by decide)).su rfl (by decide)).ups rfl (Or.inr rfl)
      rw [su_eq, cpn_at (by decide) (by decide)]
      refine ⟨⟨gR.1.1, C5 0⟩, ⟨hs2.1 0 rfl, hs2.1 1 rfl⟩, ?_⟩
      have f38 : (ups (su τ 81 (cpn (σ 99) (τ 81) 0 355)) 64 45 0) 38 = cpy (σ 43) (σ 38) 0 0 175 := by rw [ups_ne (by decide), su_ne (by decide), e38]
      have f81 : (ups (su τ 81 (cpn (σ 99) (τ 81) 0 355)) 64 45 0) 81 = cpn (σ 99) (τ 81) 0 355 := by rw [ups_ne (by decide), su_eq]
      have f41 : (ups (su τ 81 (cpn (σ 99) (τ 81) 0 355)) 64 45 0) 41 = τ 41 := by rw [ups_ne (by decide), su_ne (by decide)]
      have f45 : (ups (su τ 81 (cpn (σ 99) (τ 81) 0 355)) 64 45 0) 64 45 = 0 := ups_hit
      generalize hυ : ups (su τ 81 (cpn (σ 99) (τ 81) 0 355)) 64 45 0 = υ at *
      refine hI.act (hs2.mono (by decide) (by decide)) (by rw [hs2.1 0 rfl]) (by rw [hs2.1 11 rfl]) (by rw [hs2.1 12 rfl]) ?_ ?_ ⟨⟨?_, ?_, ?_⟩, ?_, fun j j0 j1 => absurd j1 (by rw [f45]; omega)⟩ (hI.2.1.2.1.sm hs2 (by decide) (by decide)) ⟨?_, ?_, ?_, ?_, ?_, ?_⟩
      · rw [f38, f81]
        exact gR.cg gV.n73 gV.n114 (fun i i0 i1 => by rw [cpy_at i0 i1, Int.zero_add]) (fun i i0 i1 => cpn_at i0 i1)
      · rw [f81]
        exact gV.cg (fun i i0 i1 => cpn_at i0 i1)
      · rw [f41, f45]; exact e41.1
      · rw [f45]; decide
      · rw [f45]; decide
      · rw [f41, e41.2]; exact p4
      · rw [f38]; exact C5.ofcpy C1
      · rw [f81, q81]; exact C6.ofcpn C2
      · rw [hs2.1 42 rfl]; exact C3
      · rw [hs2.1 90 rfl]; exact C4
      · rw [hs2.1 43 rfl]; exact C5
      · rw [hs2.1 99 rfl]; exact C6
theorem c_undo : ∀ (σ : Mem), Inv σ → Pair mF_undo mR_undo [] σ := by
  intro σ hI
  obtain ⟨C1, C2, C3, C4, C5, C6⟩ := hI.2.1.2.2.2
  obtain ⟨⟨p1, p2, p3⟩, ⟨p4, p5⟩, p6⟩ := hI.2.1.1
  by_cases hx : σ 64 45 = 0
  · refine pair_q (v := -1) hI (by decide) ?_ ?_
    · exact bF_undo_in (d := 997) (bPa_bring_in (d := 997) ⟨⟨by omega, by omega⟩, fun q => absurd (show σ 41 2 = 0 by omega) q, fun _ => ⟨by decide, fun _ => ⟨rfl, rfl⟩, fun q => absurd rfl q⟩⟩)
    · exact bR_undo_in (d := 998) ⟨⟨by omega, by omega⟩, fun q => absurd hx q, fun _ => ⟨rfl, rfl⟩⟩
  · obtain ⟨gR, gV⟩ := p6 (σ 64 45 - 1) (by omega) (by omega)
    have eN : Int.tmod (σ 41 1 + 40 - 1) 40 = (σ 41 1 + 39) % 40 := by rw [Int.tmod_eq_emod_of_nonneg (by omega)]; congr 1; omega
    have eN2 : (σ 41 1 + 40 - σ 64 45 + (σ 64 45 - 1)) % 40 = (σ 41 1 + 39) % 40 := by congr 1; omega
    rw [eN2] at gR
    have bN : 0 ≤ (σ 41 1 + 39) % 40 ∧ (σ 41 1 + 39) % 40 < 40 := by omega
    generalize hN : (σ 41 1 + 39) % 40 = N at *
    refine bF_undo_in (d := 997) (bPa_bring_in (d := 997) ⟨⟨by omega, by omega⟩, fun _ => ⟨⟨by omega, by omega⟩, ?_⟩, fun q => absurd q (by omega)⟩)
    rw [eN]
    refine ⟨(by omega), (by omega), (by omega), by decide, fun q => absurd q (by decide), fun _ => ?_⟩
    have e38 : (su (ups (ups σ 41 1 N) 41 2 (σ 41 2 - 1)) 38 (cpy ((ups (ups σ 41 1 N) 41 2 (σ 41 2 - 1)) 42) ((ups (ups σ 41 1 N) 41 2 (σ 41 2 - 1)) 38) (N * 175) 0 175)) 38 = cpy (σ 42) (σ 38) (N * 175) 0 175 := by
      rw [su_eq, ups_ne (by decide), ups_ne (by decide), ups_ne (by decide), ups_ne (by decide)]
    have e41 : (su (ups (ups σ 41 1 N) 41 2 (σ 41 2 - 1)) 38 (cpy ((ups (ups σ 41 1 N) 41 2 (σ 41 2 - 1)) 42) ((ups (ups σ 41 1 N) 41 2 (σ 41 2 - 1)) 38) (N * 175) 0 175)) 41 = fu (fu (σ 41) 1 N) 2 (σ 41 2 - 1) := by
      rw [su_ne (by decide), ups_row, ups_row]
    have hs : Sm σ (su (ups (ups σ 41 1 N) 41 2 (σ 41 2 - 1)) 38 (cpy ((ups (ups σ 41 1 N) 41 2 (σ 41 2 - 1)) 42) ((ups (ups σ 41 1 N) 41 2 (σ 41 2 - 1)) 38) (N * 175) 0 175)) [38, 41] [] := ((Sm.refl.ups rfl (Or.inl (by decide))).ups rfl (Or.inl (by decide))).su rfl (by decide)
    generalize hτ : su (ups (ups σ 41 1 N) 41 2 (σ 41 2 - 1)) 38 (cpy ((ups (ups σ 41 1 N) 41 2 (σ 41 2 - 1)) 42) ((ups (ups σ 41 1 N) 41 2 (σ 41 2 - 1)) 38) (N * 175) 0 175) = τ at *
    have e412 : τ 41 2 = σ 64 45 - 1 := by rw [e41, ← p1]; exact if_pos rfl
    have e411 : τ 41 1 = N := by rw [e41]; unfold fu; rw [if_neg (by decide), if_pos rfl]
    rw [e412]
    have q81 := hs.1 81 rfl
    have q64 := hs.1 64 rfl
    have q90 := hs.1 90 rfl
    refine ⟨⟨hs.1 0 rfl, hs.1 1 rfl⟩, bR_undo_in (d := 998) ⟨by rw [q64]; exact ⟨by omega, by omega⟩, fun _ => ?_, fun q => absurd q (by rw [q64]; omega)⟩⟩
    rw [q64]
    have w45 : (ups τ 64 45 (σ 64 45 - 1)) 64 45 = σ 64 45 - 1 := ups_hit
    have w90 : (ups τ 64 45 (σ 64 45 - 1)) 90 = σ 90 := by rw [ups_ne (by decide), q90]
    have w81 : (ups τ 64 45 (σ 64 45 - 1)) 81 = σ 81 := by rw [ups_ne (by decide), q81]
    have w38 : (ups τ 64 45 (σ 64 45 - 1)) 38 = τ 38 := by rw [ups_ne (by decide)]
    have w41 : (ups τ 64 45 (σ 64 45 - 1)) 41 = τ 41 := by rw [ups_ne (by decide)]
    have hs1 : Sm σ (ups τ 64 45 (σ 64 45 - 1)) [38, 41, 81, 64] [45] := (hs.mono (by decide) (by decide)).ups rfl (Or.inr rfl)
    generalize hω : ups τ 64 45 (σ 64 45 - 1) = ω at *
    refine loop_cp (σ := ω) (a := 81) (f := fun i => σ 90 (355 * (σ 64 45 - 1) + i)) (o := 0) (n := 355) (E := fun i υ => Ev 999 mR_undo 21 [vR 64, vI i] [] υ (fun r4 τ5 => oI r4 (fun w6 => (σ 64 45 - 1 = w6 ∧ rg (σ 64 45 - 1)) ∧ (τ5 0 = σ 0 ∧ τ5 1 = σ 1) ∧ Inv τ5))) (by decide) (fun i i0 i1 h => ?_) ?_
    · refine bR_undo_21 (d := 998) ⟨⟨by omega, by omega⟩, fun q => absurd q (by omega), fun _ => ⟨?_, ?_, i0, ?_⟩⟩
      · rw [su_ne (by decide), w45]; omega
      · rw [su_ne (by decide), w45]; omega
      · rw [show (0 : Int) + i = i by omega] at h
        rw [su_ne (by decide), su_ne (by decide), w45, w90]; exact h
    · refine bR_undo_21 (d := 998) ⟨by decide, fun _ => ?_, fun q => absurd q (by decide)⟩
      have hs2 : Sm σ (su ω 81 (cpn (fun i => σ 90 (355 * (σ 64 45 - 1) + i)) (ω 81) 0 355)) [38, 41, 81, 64] [45] := hs1.su rfl (by decide)
      rw [su_ne (by decide), w45]
      refine ⟨⟨rfl, ⟨by omega, by omega⟩⟩, ⟨hs2.1 0 rfl, hs2.1 1 rfl⟩, ?_⟩
      have f38 : (su ω 81 (cpn (fun i => σ 90 (355 * (σ 64 45 - 1) + i)) (ω 81) 0 355)) 38 = cpy (σ 42) (σ 38) (N * 175) 0 175 := by rw [su_ne (by decide), w38, e38]
      have f81 : (su ω 81 (cpn (fun i => σ 90 (355 * (σ 64 45 - 1) + i)) (ω 81) 0 355)) 81 = cpn (fun i => σ 90 (355 * (σ 64 45 - 1) + i)) (σ 81) 0 355 := by rw [su_eq, w81]
      have f41 : (su ω 81 (cpn (fun i => σ 90 (355 * (σ 64 45 - 1) + i)) (ω 81) 0 355)) 41 = τ 41 := by rw [su_ne (by decide), w41]
      have f45 : (su ω 81 (cpn (fun i => σ 90 (355 * (σ 64 45 - 1) + i)) (ω 81) 0 355)) 64 45 = σ 64 45 - 1 := by rw [su_ne (by decide), w45]
      generalize hυ : su ω 81 (cpn (fun i => σ 90 (355 * (σ 64 45 - 1) + i)) (ω 81) 0 355) = υ at *
      refine hI.act (hs2.mono (by decide) (by decide)) (by rw [hs2.1 0 rfl]) (by rw [hs2.1 11 rfl]) (by rw [hs2.1 12 rfl]) ?_ ?_ ⟨⟨?_, ?_, ?_⟩, ?_, fun j j0 j1 => ?_⟩ (hI.2.1.2.1.sm hs2 (by decide) (by decide)) ⟨?_, ?_, ?_, ?_, ?_, ?_⟩
      · rw [f38, f81]
        exact gR.cg gV.n73 gV.n114 (fun i i0 i1 => by rw [cpy_at i0 i1]) (fun i i0 i1 => cpn_at i0 i1)
      · rw [f81]
        exact gV.cg (fun i i0 i1 => cpn_at i0 i1)
      · rw [f41, f45]; exact e412
      · rw [f45]; omega
      · rw [f45]; omega
      · rw [f41, e411]; exact bN
      · rw [f45] at j1
        rw [f41, f45, e411, hs2.1 42 rfl, hs2.1 90 rfl, hs2.2 37 rfl, hs2.2 38 rfl, show (N + 40 - (σ 64 45 - 1) + j) % 40 = (σ 41 1 + 40 - σ 64 45 + j) % 40 by omega]
        exact p6 j j0 (by omega)
      · rw [f38]; exact C3.ofcpy C1
      · rw [f81]; exact RG.ofcpn (fun i => C4 _) C2
      · rw [hs2.1 42 rfl]; exact C3
      · rw [hs2.1 90 rfl]; exact C4
      · rw [hs2.1 43 rfl]; exact C5
      · rw [hs2.1 99 rfl]; exact C6
