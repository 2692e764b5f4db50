def SmMk (σ τ : Mem) : Prop := (τ 82 = σ 82 ∧ τ 83 = σ 83 ∧ τ 84 = σ 84 ∧ τ 85 = σ 85 ∧ τ 86 = σ 86 ∧ τ 87 = σ 87 ∧ τ 88 = σ 88 ∧ τ 89 = σ 89) ∧ τ 64 37 = σ 64 37 ∧ τ 64 38 = σ 64 38 ∧ τ 64 39 = σ 64 39 ∧ τ 64 40 = σ 64 40
theorem SmMk.of {σ τ : Mem} {S : List Nat} {J : List Int} (h : Sm σ τ S J) (h1 : S.contains 82 = false ∧ S.contains 83 = false ∧ S.contains 84 = false ∧ S.contains 85 = false ∧ S.contains 86 = false ∧ S.contains 87 = false ∧ S.contains 88 = false ∧ S.contains 89 = false) (h2 : J.contains 37 = false ∧ J.contains 38 = false ∧ J.contains 39 = false ∧ J.contains 40 = false) : SmMk σ τ := by
  obtain ⟨a1, a2, a3, a4, a5, a6, a7, a8⟩ := h1
  obtain ⟨b1, b2, b3, b4⟩ := h2
  exact ⟨⟨h.1 82 a1, h.1 83 a2, h.1 84 a3, h.1 85 a4, h.1 86 a5, h.1 87 a6, h.1 88 a7, h.1 89 a8⟩, h.2 37 b1, h.2 38 b2, h.2 39 b3, h.2 40 b4⟩
theorem wjv_cg {σ τ : Mem} {o : Option (List Cla)} {m : Int → Int} {p : Int} (h : SmMk σ τ) : wjv τ o m p = wjv σ o m p := by
  obtain ⟨⟨a1, a2, a3, a4, a5, a6, -⟩, -, -, b, -⟩ := h
  funext s x
  unfold wjv
  rw [spv_cg b ⟨a4, a5, a6⟩, a1, a2, a3]
theorem hvs_cg {σ τ : Mem} {o : Option (List Cla)} {m : Int → Int} {p x : Int} (h : SmMk σ τ) : hvs τ o m p x = hvs σ o m p x := by
  have w := wjv_cg (o := o) (m := m) (p := p) h
  obtain ⟨⟨-, -, -, -, -, -, a7, a8⟩, c, -, -, e⟩ := h
  unfold hvs
  rw [w, a7, a8, c, e]
/-- a having now, by the reference -/
theorem haveNowR {σ : Mem} (hM : MarkI σ) {o : Option (List Cla)} (hH : Held σ o) {T P D B : Int} (hW : RowW T P D B (σ 81)) (hB : B ≤ 47952) (hT : T = σ 64 37) (hDD : D ≤ 4000) (h0 : 0 ≤ σ 81 114 ∧ σ 81 114 ≤ 60) (hq : rg (σ 64 43)) (d : Nat) {p x : Int} (hp : 0 ≤ p ∧ p < σ 64 38) (hx : 0 ≤ x ∧ x < σ 64 37) (hc : 0 < σ 81 (8 * p + x)) {Q : RV → Mem → Prop}
    (hQ : ∀ τ, Sm σ τ [73, 74, 81] [] → τ 81 = gnL (σ 64 43) (σ 81) p (hvs σ o (σ 81) p x) → Q (rI (tot (hvs σ o (σ 81) p x))) τ) : Cl (d + 21) mR_haveNow [aR 64, aI p, aI x] σ Q := by
  have n1 := hM.2.1.1
  have n2 := hM.2.1.2.1
  obtain ⟨b1, b2, b3, b4⟩ := hW.ltB (by rw [hT]; exact n1) (by omega : D ≤ 5000) (p := p) (by omega)
  refine bR_haveNow_in (joyR hM hH (d + 13) hp hx b2 b1 (fun ω s1 => ?_))
  have hs := hv_start (o := o) hM hW hT (σ 64 43) h0 (p := p) (by omega) hx hc
  have bp := bcF_pos (s := σ 81 (48 + p)) (x := x) b2 ⟨by omega, by omega⟩
  refine haveR hM hH hW hB hT hDD h0 hq hp 8 (d + 4) x _ (σ 81 (48 + p), []) ω _ hx hs True.intro rfl (by show 9 ≤ bcF (ins (σ 81 (48 + p)) x) + ((8 : Nat) : Int); omega) (s1.mono (by decide) (by decide)) (s1.1 81 rfl) (fun ω2 s2 e2 => ?_)
  have := hQ ω2 s2 e2
  show Q (rI (tot (hvs σ o (σ 81) p x) - 0)) ω2
  rw [Int.sub_zero]
  exact this
theorem c_have : ∀ (a b : Int) (σ : Mem), Inv σ → rg a → rg b → Pair mF_have mR_have [aI a, aI b] σ := by
  intro p x σ hI ha hb
  have hM := hI.1.2.1
  obtain ⟨o, hH⟩ := hI.heldO
  obtain ⟨⟨m1, m2, m3, m4⟩, ⟨n1, n2, n3, n4⟩, -⟩ := hI.1.2.1
  have hR := hI.1.2.2.1
  have hV := hI.1.2.2.2
  have q0 := hI.2.2.2.2.2.1
  obtain ⟨C1, C2, C3, C4, C5, C6⟩ := hI.2.1.2.2.2
  obtain ⟨⟨p1, p2, p3⟩, p4, -⟩ := hI.2.1.1
  by_cases hx : (0 ≤ p ∧ p < σ 64 38) ∧ (0 ≤ x ∧ x < σ 64 37) ∧ 0 < σ 81 (8 * p + x)
  · obtain ⟨x1, x2, x3⟩ := hx
    have fb : σ 38 (27 + p * 8 + x) = σ 81 (8 * p + x) := Cor.eq hR.S (Cor.fst ⟨by omega, by omega⟩ ⟨by omega, by omega⟩)
    obtain ⟨ok1, ok2⟩ := hvs_ok (o := o) hM hV.W rfl 0 hV.L.1 (p := p) ⟨by omega, by omega⟩ x2 x3
    have tr := tot_r ok1
    have c2 : 0 ≤ σ 38 2 ∧ σ 38 2 ≤ 60 := by have a := hR.L.1; have b := hV.L.1; omega
    obtain ⟨g1, g2⟩ := gcL_RG 0 hR.S hV.W (Int.le_refl _) (Int.le_refl _) hV.L.1 c2 (p := p) ⟨by omega, by omega⟩ n1 C1 C2 ok1
    obtain ⟨l1, l2⟩ := gcL_L hR.S hV.W (Int.le_refl _) hR.L hV.L (p := p) ⟨by omega, by omega⟩ n1 ok1
    refine pair_act (v := tot (hvs σ o (σ 81) p x)) (c' := gcL (σ 38) p (hvs σ o (σ 81) p x)) (m' := gnL 0 (σ 81) p (hvs σ o (σ 81) p x)) hI ⟨by omega, by omega⟩ (RowR.of (gcL_S hR.S hV.W hV.L.1 ⟨by omega, by omega⟩ n1 ok1) l1) (RowV.of (gnL_W hV.W hV.L.1 ⟨by omega, by omega⟩ n1 ok1) l2) g1 g2 ?_ (fun τ hs => ?_)
    · refine bF_have_in (d := 980) ⟨ha, hb, hI.cOK, fun _ => keepC (by omega) 996 (fun τ hs hk => ?_), fun q => absurd (by rw [fb]; omega) q⟩
      have e38 := hs.1 38 rfl
      have sk : SmMk σ τ := SmMk.of hs (by decide) (by decide)
      refine doHave37 (hM.sm' hs (by decide)) (hH.sm hs (by decide) rfl) (m := σ 81) (T := σ 64 37) (P := σ 64 38) (D := 999) (B := 47952) (by rw [e38]; exact hR.S) hV.W (Int.le_refl _) (by rw [hs.1 64 rfl]) (by decide) hV.L.1 (by rw [e38]; exact c2) 980 (by rw [hs.1 64 rfl]; exact x1) (by rw [hs.1 64 rfl]; exact x2) x3 (fun τ2 s2 e2 => ?_)
      rw [hvs_cg sk] at e2 ⊢
      refine ⟨rfl, (hs.mono (by decide) (by decide)).trans (s2.mono (by decide) (by decide)), ?_, by rw [e2, e38]⟩
      rw [s2.1 41 rfl, s2.1 42 rfl]; exact hk
    · have q81 := hs.1 81 rfl
      have q64 := hs.1 64 rfl
      refine bR_have_in (d := 977) ⟨ha, hb, by unfold mOK; rw [q64, q81]; exact hI.mOK, fun _ => keepR (by rw [q64]; omega) 997 (fun ω gs gk => ?_), fun q => absurd (by rw [q64, q81]; omega) q⟩
      have s1 : Sm σ ω (64 :: 90 :: cSl) [45] := (hs.mono (by decide) (by decide)).trans (gs.mono (by decide) (by decide))
      have e81 : ω 81 = σ 81 := s1.1 81 rfl
      have e43 : ω 64 43 = 0 := by rw [s1.2 43 rfl]; exact q0
      have sk : SmMk σ ω := SmMk.of s1 (by decide) (by decide)
      have hM2 : MarkI ω := by
        obtain ⟨⟨k1, k2, k3, k4, k5, k6, k7, k8⟩, k9⟩ := sk
        exact hM.sm s1 (by decide) (by decide)
      refine haveNowR hM2 (hH.sm s1 (by decide) rfl) (T := σ 64 37) (P := σ 64 38) (D := 999) (B := 47952) (by rw [e81]; exact hV.W) (Int.le_refl _) sk.2.1.symm (by decide) (by rw [e81]; exact hV.L.1) (by rw [e43]; decide) 977 (by rw [sk.2.2.1]; exact x1) (by rw [sk.2.1]; exact x2) (by rw [e81]; exact x3) (fun ω2 s2 e2 => ?_)
      rw [e43, e81] at e2
      rw [e81]
      rw [hvs_cg sk] at e2 ⊢
      refine ⟨rfl, (gs.mono (by decide) (by decide)).trans (s2.mono (by decide) (by decide)), ?_, e2⟩
      rw [s2.1 64 rfl, s2.1 90 rfl]; exact gk
  · refine pair_q (v := -1) hI (by decide) ?_ ?_
    · refine bF_have_in (d := 980) ⟨ha, hb, hI.cOK, fun q => absurd ?_ hx, fun _ => ⟨rfl, rfl⟩⟩
      have fb : σ 38 (27 + p * 8 + x) = σ 81 (8 * p + x) := Cor.eq hR.S (Cor.fst ⟨by omega, by omega⟩ ⟨by omega, by omega⟩)
      rw [← fb]; omega
    · exact bR_have_in (d := 977) ⟨ha, hb, hI.mOK, fun q => absurd (by omega) hx, fun _ => ⟨rfl, rfl⟩⟩
