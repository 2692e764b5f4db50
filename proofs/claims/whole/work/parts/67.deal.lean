/-! ===== AN ACT AS A PAIR; CASES steal, sell ===== -/
def cSl : List Nat := [17, 18, 19, 28, 39, 44, 45, 46, 47, 48, 49, 50, 51, 52, 53, 54, 62, 63, 38, 41, 42]
def rSl : List Nat := [64, 73, 74, 75, 76, 77, 78, 91, 92, 81, 90]
def rJl : List Int := [0, 3, 4, 5, 14, 21, 22, 23, 24, 45, 48, 49, 50, 51, 52, 61]
theorem pair_act {F R : Nat} {as : List AV} {σ : Mem} {v : Int} {c' m' : Int → Int} (hI : Inv σ) (hv : rg v) (hR : RowR c' m') (hV : RowV (σ 64 37) (σ 64 38) m') (g1 : RG c') (g2 : RG m')
    (hF : Cl 999 F (aR 11 :: as) σ (fun r τ => r = rI v ∧ Sm σ τ cSl [] ∧ KC (σ 41) (σ 42) (σ 38) (τ 41) (τ 42) ∧ τ 38 = c'))
    (hRf : ∀ τ, Sm σ τ cSl [] → Cl 999 R (aR 64 :: as) τ (fun r ω => r = rI v ∧ Sm τ ω rSl rJl ∧ KR (τ 64 45) (τ 90) (τ 81) (ω 64 45) (ω 90) ∧ ω 81 = m')) : Pair F R as σ := by
  obtain ⟨C1, C2, C3, C4, C5, C6⟩ := hI.2.1.2.2.2
  refine Cl.mono hF (fun r τ h => ?_)
  obtain ⟨rfl, hs, hk, h38⟩ := h
  refine ⟨⟨hs.1 0 rfl, hs.1 1 rfl⟩, Cl.mono (hRf τ hs) (fun r ω g => ?_)⟩
  obtain ⟨rfl, gs, gk, g81⟩ := g
  have e45 : τ 64 45 = σ 64 45 := by rw [hs.1 64 rfl]
  rw [e45, hs.1 90 rfl, hs.1 81 rfl] at gk
  have as_ : Sm σ ω actL actJ := (hs.mono (by decide) (by decide)).trans (gs.mono (by decide) (by decide))
  have w38 : ω 38 = c' := by rw [gs.1 38 rfl, h38]
  refine ⟨⟨rfl, hv⟩, ⟨by rw [gs.1 0 rfl, hs.1 0 rfl], by rw [gs.1 1 rfl, hs.1 1 rfl]⟩, hI.act as_ (by rw [gs.1 0 rfl, hs.1 0 rfl]) (by rw [gs.1 11 rfl, hs.1 11 rfl]) (by rw [gs.1 12 rfl, hs.1 12 rfl]) (by rw [w38, g81]; exact hR) (by rw [g81]; exact hV) ?_ (hI.2.1.2.1.cg (by rw [gs.1 11 rfl, hs.1 11 rfl]) (by rw [gs.2 63 rfl, hs.1 64 rfl]) (by rw [gs.1 43 rfl, hs.1 43 rfl]) (by rw [gs.1 99 rfl, hs.1 99 rfl]) (by rw [gs.2 37 rfl, hs.1 64 rfl]) (by rw [gs.2 38 rfl, hs.1 64 rfl])) ⟨?_, ?_, ?_, ?_, ?_, ?_⟩⟩
  · refine pastI_iff.mpr ?_
    rw [gs.2 37 rfl, gs.2 38 rfl, hs.1 64 rfl, gs.1 41 rfl, gs.1 42 rfl]
    exact (pastI_iff.mp hI.2.1.1).keep hI.1.2.2.1 hI.1.2.2.2 hk gk
  · rw [w38]; exact g1
  · rw [g81]; exact g2
  · rw [gs.1 42 rfl]; exact hk.2.2.2.2 C1 C3
  · exact gk.2.2.2 C4 C2
  · rw [gs.1 43 rfl, hs.1 43 rfl]; exact C5
  · rw [gs.1 99 rfl, hs.1 99 rfl]; exact C6
/-- a first goes over -/
def mvC (c : Int → Int) (a b : Int) : Int → Int := fu (fu c a (c a - 1)) b (fu c a (c a - 1) b + 1)
theorem RowW.mv {T P D B : Int} {m : Int → Int} {a b : Int} (h : RowW T P D B m) (ha : 0 ≤ a ∧ a < 48) (hb : 0 ≤ b ∧ b < 48) (hab : b ≠ a) (hp : 0 < m a) : RowW T P D B (mvC m a b) := by
  unfold mvC
  have h1 : RowW T P D (B - 999) (fu m a (m a - 1)) := h.set (by omega) (by omega) (fun q => by omega) (fun q => by omega) (fun q => by omega) (by rw [if_neg (by omega), if_pos (by omega)]; omega)
  have nb := h.1 b hb.1 (by omega)
  rw [fu_ne hab]
  refine h1.set (by omega) (by omega) (fun q => by omega) (fun q => by omega) (fun q => by omega) ?_
  rw [if_neg (by omega), if_pos (by omega), fu_ne hab]; omega
theorem RowS.mv {c m : Int → Int} {a b a' b' : Int} (h : RowS c m) (h1 : Cor a a') (h2 : Cor b b') : RowS (mvC c a b) (mvC m a' b') := by
  unfold mvC; exact (h.sub h1).add h2
theorem RG.mv {c : Int → Int} {a b : Int} (h : RG c) (h1 : rg (c a - 1)) (h2 : rg (fu c a (c a - 1) b + 1)) : RG (mvC c a b) := (h.offu h1).offu h2
/-- each cell of firsts, of money is small -/
theorem RowW.f48 {T P D B : Int} {m : Int → Int} (h : RowW T P D B m) (hB : B ≤ 47952) {i : Int} (h0 : 0 ≤ i) (h1 : i < 48) : 0 ≤ m i ∧ m i ≤ 48 := by
  have s2 := sumI_nn (f := fun i => m (54 + i)) (n := 6) (fun i h0 h1 => h.1 _ (by omega) (by omega))
  have := sumI_le (f := m) h0 (n := 48) (fun i h0 h1 => h.1 i h0 (by omega)) (by omega)
  have := h.1 i h0 (by omega)
  have := h.2.2.1
  have := h.2.2.2.2.2.2.1
  omega
theorem RowW.m594 {T P D B : Int} {m : Int → Int} (h : RowW T P D B m) {p : Int} (h0 : 0 ≤ p) (h1 : p < 6) : 0 ≤ m (60 + p) ∧ m (60 + p) ≤ 594 := by
  have := sumI_le (f := fun i => m (60 + i)) h0 (n := 6) (fun i h0 h1 => h.1 _ (by omega) (by omega)) (by omega)
  have := h.1 (60 + p) (by omega) (by omega)
  have := h.2.2.2.1
  omega
theorem LogR.mv {c m : Int → Int} {a b a' b' : Int} (h : LogR c m) (h1 : a < 115 ∧ a ≠ 2) (h2 : b < 115 ∧ b ≠ 2) (h3 : a' < 114) (h4 : b' < 114) : LogR (mvC c a b) (mvC m a' b') := (h.upd h1 h3).upd h2 h4
theorem LogW.mv {m : Int → Int} {a b : Int} (h : LogW m) (h3 : a < 114) (h4 : b < 114) : LogW (mvC m a b) := (h.upd h3).upd h4
/-- what the class allows and what the reference allows -/
theorem c_steal : ∀ (a b c : Int) (σ : Mem), Inv σ → rg a → rg b → rg c → Pair mF_steal mR_steal [aI a, aI b, aI c] σ := by
  intro a b x σ hI ha hb hc
  obtain ⟨⟨m1, m2, m3, m4⟩, ⟨n1, n2, n3, n4⟩, -⟩ := hI.1.2.1
  have hR := hI.1.2.2.1
  have hV := hI.1.2.2.2
  obtain ⟨C1, C2, C3, C4, C5, C6⟩ := hI.2.1.2.2.2
  obtain ⟨⟨p1, p2, p3⟩, p4, -⟩ := hI.2.1.1
  by_cases hx : (0 ≤ a ∧ a < σ 64 38) ∧ (0 ≤ b ∧ b < σ 64 38) ∧ a ≠ b ∧ (0 ≤ x ∧ x < σ 64 37) ∧ 0 < σ 81 (8 * b + x)
  · obtain ⟨x1, x2, x3, x4, x5⟩ := hx
    have fb : σ 38 (27 + b * 8 + x) = σ 81 (8 * b + x) := Cor.eq hR.S (Cor.fst (by omega) (by omega))
    have fa : σ 38 (27 + a * 8 + x) = σ 81 (8 * a + x) := Cor.eq hR.S (Cor.fst (by omega) (by omega))
    have qa := hV.W.f48 (Int.le_refl _) (i := 8 * a + x) (by omega) (by omega)
    have qb := hV.W.f48 (Int.le_refl _) (i := 8 * b + x) (by omega) (by omega)
    refine pair_act (v := σ 81 (8 * a + x) + 1) (c' := mvC (σ 38) (27 + b * 8 + x) (27 + a * 8 + x)) (m' := mvC (σ 81) (8 * b + x) (8 * a + x)) hI ⟨by omega, by omega⟩ (RowR.of (hR.S.mv (Cor.fst (by omega) (by omega)) (Cor.fst (by omega) (by omega))) (hR.L.mv ⟨by omega, by omega⟩ ⟨by omega, by omega⟩ (by omega) (by omega))) (RowV.of (hV.W.mv (by omega) (by omega) (by omega) x5) (hV.L.mv (by omega) (by omega))) (C1.mv (by rw [fb]; exact ⟨by omega, by omega⟩) (by rw [fu_ne (by omega), fa]; exact ⟨by omega, by omega⟩)) (C2.mv ⟨by omega, by omega⟩ (by rw [fu_ne (by omega)]; exact ⟨by omega, by omega⟩)) ?_ (fun τ hs => ?_)
    · refine bF_steal_in (d := 994) ⟨ha, hb, hc, hI.cOK, fun _ => keepC (by omega) 996 (fun τ hs hk => ?_), fun q => absurd (by rw [fb]; omega) q⟩
      have e38 := hs.1 38 rfl
      refine bSt_doSteal_r37_in (d := 996) ⟨(by omega), (by omega), fun μ4 h4 => ⟨(by omega), (by omega), fun μ8 h8 => ⟨(by omega), (by omega), ?_, ?_, ?_, ?_⟩⟩⟩
      · rw [h8, ups_hit, h4, ups_fn (by omega), e38, fa]
      · rw [h8, h4]; exact ((hs.mono (by decide) (by decide)).ups rfl (Or.inl (by decide))).ups rfl (Or.inl (by decide))
      · rw [h8, ups_ne (by decide), ups_ne (by decide), h4, ups_ne (by decide), ups_ne (by decide)]; exact hk
      · rw [h8, ups_row, h4, ups_row, e38]; rfl
    · have q81 := hs.1 81 rfl
      have q64 := hs.1 64 rfl
      refine bR_steal_in (d := 994) ⟨ha, hb, hc, by unfold mOK; rw [q64, q81]; exact hI.mOK, fun _ => keepR (by rw [q64]; omega) 997 (fun ω gs gk => ?_), fun q => absurd (by rw [q64, q81]; omega) q⟩
      have e81 := gs.1 81 rfl
      refine bR_stealNow_in (d := 997) ⟨(by omega), (by omega), fun μ1 h1 => ⟨(by omega), (by omega), fun μ2 h2 => ⟨(by omega), (by omega), ?_, ?_, ?_, ?_⟩⟩⟩
      · rw [h2, ups_hit, h1, ups_fn (by omega), e81, q81]
      · rw [h2, h1]; exact ((gs.mono (by decide) (by decide)).ups rfl (Or.inl (by decide))).ups rfl (Or.inl (by decide))
      · rw [h2, ups_ne (by decide), ups_ne (by decide), h1, ups_ne (by decide), ups_ne (by decide)]; exact gk
      · rw [h2, ups_row, h1, ups_row, e81, q81]; rfl
  · refine pair_q (v := -1) hI (by decide) ?_ ?_
    · refine bF_steal_in (d := 994) ⟨ha, hb, hc, hI.cOK, fun q => absurd ?_ hx, fun _ => ⟨rfl, rfl⟩⟩
      have fb : σ 38 (27 + b * 8 + x) = σ 81 (8 * b + x) := Cor.eq hR.S (Cor.fst (by omega) (by omega))
      rw [← fb]; omega
    · exact bR_steal_in (d := 994) ⟨ha, hb, hc, hI.mOK, fun q => absurd (by omega) hx, fun _ => ⟨rfl, rfl⟩⟩
/-- money goes over -/
def pyC (c : Int → Int) (a b v : Int) : Int → Int := fu (fu c a (c a - v)) b (fu c a (c a - v) b + v)
theorem RowW.py {T P D B : Int} {m : Int → Int} {o p v : Int} (h : RowW T P D B m) (ho : 0 ≤ o ∧ o < 6) (hp : 0 ≤ p ∧ p < 6) (hop : p ≠ o) (h0 : 0 ≤ v) (hv : v ≤ m (60 + o)) : RowW T P D B (pyC m (60 + o) (60 + p) v) := by
  unfold pyC
  have s0 := h.2.2.2.1
  have nb := h.1 (60 + p) (by omega) (by omega)
  have h1 : RowW T P D B (fu m (60 + o) (m (60 + o) - v)) := h.set (by omega) (by omega) (fun q => by omega) (fun q => by omega) (fun q => by omega) (by rw [if_neg (by omega), if_neg (by omega)]; omega)
  have s1 : sumI (fun j => fu m (60 + o) (m (60 + o) - v) (60 + j)) 6 = sumI (fun j => m (60 + j)) 6 - v := by
    rw [sum_sh (by decide) (by omega), if_pos (by omega)]; omega
  have e : fu m (60 + o) (m (60 + o) - v) (60 + p) = m (60 + p) := fu_ne (by omega)
  refine h1.set (by omega) (by rw [e]; omega) (fun q => by omega) (fun q => by omega) (fun _ _ => by rw [s1, e]; omega) ?_
  rw [if_neg (by omega), if_neg (by omega)]; omega
theorem RowS.py {c m : Int → Int} {a b a' b' v : Int} (h : RowS c m) (h1 : Cor a a') (h2 : Cor b b') : RowS (pyC c a b v) (pyC m a' b' v) := by
  unfold pyC; exact (h.sub h1).add h2
theorem RG.py {c : Int → Int} {a b v : Int} (h : RG c) (h1 : rg (c a - v)) (h2 : rg (fu c a (c a - v) b + v)) : RG (pyC c a b v) := (h.offu h1).offu h2
theorem LogR.py {c m : Int → Int} {a b a' b' v : Int} (h : LogR c m) (h1 : a < 115 ∧ a ≠ 2) (h2 : b < 115 ∧ b ≠ 2) (h3 : a' < 114) (h4 : b' < 114) : LogR (pyC c a b v) (pyC m a' b' v) := (h.upd h1 h3).upd h2 h4
theorem LogW.py {m : Int → Int} {a b v : Int} (h : LogW m) (h3 : a < 114) (h4 : b < 114) : LogW (pyC m a b v) := (h.upd h3).upd h4
theorem pyC_o {c : Int → Int} {a b v i : Int} (h1 : i ≠ a) (h2 : i ≠ b) : pyC c a b v i = c i := by unfold pyC; rw [fu_ne h2, fu_ne h1]
theorem mvC_o {c : Int → Int} {a b i : Int} (h1 : i ≠ a) (h2 : i ≠ b) : mvC c a b i = c i := by unfold mvC; rw [fu_ne h2, fu_ne h1]
theorem pyC_b {c : Int → Int} {a b v : Int} (h : b ≠ a) : pyC c a b v b = c b + v := by unfold pyC; rw [fu_hit, fu_ne h]
theorem mv_py {c : Int → Int} {a b i j v : Int} (h1 : a ≠ i) (h2 : a ≠ j) (h3 : b ≠ i) (h4 : b ≠ j) : mvC (pyC c i j v) a b = pyC (mvC c a b) i j v := by
  have e1 : pyC c i j v a = c a := pyC_o h1 h2
  have e3 : mvC c a b i = c i := mvC_o (fun z => h1 z.symm) (fun z => h3 z.symm)
  funext k
  unfold mvC
  rw [e1]
  have e3' : fu (fu c a (c a - 1)) b (fu c a (c a - 1) b + 1) i = c i := e3
  have e4' : fu (fu c a (c a - 1)) b (fu c a (c a - 1) b + 1) j = c j := mvC_o (fun z => h2 z.symm) (fun z => h4 z.symm)
  have e5 : fu (pyC c i j v) a (c a - 1) b = fu c a (c a - 1) b := by
    unfold fu
    by_cases q : b = a
    · rw [if_pos q, if_pos q]
    · rw [if_neg q, if_neg q]; exact pyC_o h3 h4
  rw [e5]
  unfold pyC
  rw [e3']
  have e6 : fu (fu (fu c a (c a - 1)) b (fu c a (c a - 1) b + 1)) i (c i - v) j = fu c i (c i - v) j := by
    unfold fu
    by_cases q : j = i
    · rw [if_pos q, if_pos q]
    · rw [if_neg q, if_neg q]; exact e4'
  rw [e6]
  rw [fu_comm (i := j) (j := a) (fun z => h2 z.symm), fu_comm (i := i) (j := a) (fun z => h1 z.symm), fu_comm (i := j) (j := b) (fun z => h4 z.symm), fu_comm (i := i) (j := b) (fun z => h3 z.symm)]
theorem c_sell : ∀ (a b c d : Int) (σ : Mem), Inv σ → rg a → rg b → rg c → rg d → Pair mF_sell mR_sell [aI a, aI b, aI c, aI d] σ := by
  intro a b x v σ hI ha hb hc hd
  obtain ⟨⟨m1, m2, m3, m4⟩, ⟨n1, n2, n3, n4⟩, -⟩ := hI.1.2.1
  have hR := hI.1.2.2.1
  have hV := hI.1.2.2.2
  obtain ⟨C1, C2, C3, C4, C5, C6⟩ := hI.2.1.2.2.2
  obtain ⟨⟨p1, p2, p3⟩, p4, -⟩ := hI.2.1.1
  by_cases hx : (0 ≤ a ∧ a < σ 64 38) ∧ (0 ≤ b ∧ b < σ 64 38) ∧ a ≠ b ∧ (0 ≤ x ∧ x < σ 64 37) ∧ 0 < σ 81 (8 * a + x) ∧ (0 ≤ v ∧ v ≤ 99) ∧ v ≤ σ 81 (60 + b)
  · obtain ⟨x1, x2, x3, x4, x5, x6, x7⟩ := hx
    have fb : σ 38 (27 + b * 8 + x) = σ 81 (8 * b + x) := Cor.eq hR.S (Cor.fst (by omega) (by omega))
    have fa : σ 38 (27 + a * 8 + x) = σ 81 (8 * a + x) := Cor.eq hR.S (Cor.fst (by omega) (by omega))
    have ma : σ 38 (3 + a * 4 + 0) = σ 81 (60 + a) := Cor.eq hR.S (Cor.money (by omega))
    have mb : σ 38 (3 + b * 4 + 0) = σ 81 (60 + b) := Cor.eq hR.S (Cor.money (by omega))
    have qa := hV.W.f48 (Int.le_refl _) (i := 8 * a + x) (by omega) (by omega)
    have qb := hV.W.f48 (Int.le_refl _) (i := 8 * b + x) (by omega) (by omega)
    have wa := hV.W.m594 (p := a) (by omega) (by omega)
    have wb := hV.W.m594 (p := b) (by omega) (by omega)
    refine pair_act (v := σ 81 (60 + a) + v) (c' := mvC (pyC (σ 38) (3 + b * 4 + 0) (3 + a * 4 + 0) v) (27 + a * 8 + x) (27 + b * 8 + x)) (m' := mvC (pyC (σ 81) (60 + b) (60 + a) v) (8 * a + x) (8 * b + x)) hI ⟨by omega, by omega⟩ (RowR.of ((hR.S.py (Cor.money (by omega)) (Cor.money (by omega))).mv (Cor.fst (by omega) (by omega)) (Cor.fst (by omega) (by omega))) ((hR.L.py ⟨by omega, by omega⟩ ⟨by omega, by omega⟩ (by omega) (by omega)).mv ⟨by omega, by omega⟩ ⟨by omega, by omega⟩ (by omega) (by omega))) (RowV.of ((hV.W.py (by omega) (by omega) (by omega) (by omega) (by omega)).mv (by omega) (by omega) (by omega) (by rw [pyC_o (by omega) (by omega)]; exact x5)) ((hV.L.py (by omega) (by omega)).mv (by omega) (by omega))) ((C1.py (by rw [mb]; exact ⟨by omega, by omega⟩) (by rw [fu_ne (by omega), ma]; exact ⟨by omega, by omega⟩)).mv (by rw [pyC_o (by omega) (by omega), fa]; exact ⟨by omega, by omega⟩) (by rw [fu_ne (by omega), pyC_o (by omega) (by omega), fb]; exact ⟨by omega, by omega⟩)) ((C2.py ⟨by omega, by omega⟩ (by rw [fu_ne (by omega)]; exact ⟨by omega, by omega⟩)).mv (by rw [pyC_o (by omega) (by omega)]; exact ⟨by omega, by omega⟩) (by rw [fu_ne (by omega), pyC_o (by omega) (by omega)]; exact ⟨by omega, by omega⟩)) ?_ (fun τ hs => ?_)
    · refine bF_sell_in (d := 994) ⟨ha, hb, hc, hd, hI.cOK, fun _ => keepC (by omega) 996 (fun τ hs hk => ?_), fun q => absurd (by rw [fa, mb]; omega) q⟩
      have e38 := hs.1 38 rfl
      refine bSt_doSell_r37_in (d := 995) (bSt_pay_r37_in (d := 995) ⟨(by omega), (by omega), fun μ4 h4 => ⟨(by omega), (by omega), fun μ8 h8 => bSt_doSteal_r37_in (d := 995) ⟨(by omega), (by omega), fun ν4 k4 => ⟨(by omega), (by omega), fun ν8 k8 => ⟨(by omega), (by omega), ?_, ?_, ?_, ?_⟩⟩⟩⟩⟩)
      · rw [k8, ups_fn (by omega), k4, ups_fn (by omega), h8, ups_hit, h4, ups_fn (by omega), e38, ma]
      · rw [k8, k4, h8, h4]; exact ((((hs.mono (by decide) (by decide)).ups rfl (Or.inl (by decide))).ups rfl (Or.inl (by decide))).ups rfl (Or.inl (by decide))).ups rfl (Or.inl (by decide))
      · rw [k8, ups_ne (by decide), ups_ne (by decide), k4, ups_ne (by decide), ups_ne (by decide), h8, ups_ne (by decide), ups_ne (by decide), h4, ups_ne (by decide), ups_ne (by decide)]; exact hk
      · have t8 : μ8 38 = pyC (σ 38) (3 + b * 4 + 0) (3 + a * 4 + 0) v := by rw [h8, ups_row, h4, ups_row, e38]; rfl
        rw [k8, ups_row, k4, ups_row, t8]; rfl
    · have q81 := hs.1 81 rfl
      have q64 := hs.1 64 rfl
      refine bR_sell_in (d := 994) ⟨ha, hb, hc, hd, by unfold mOK; rw [q64, q81]; exact hI.mOK, fun _ => keepR (by rw [q64]; omega) 997 (fun ω gs gk => ?_), fun q => absurd (by rw [q64, q81]; omega) q⟩
      have e81 := gs.1 81 rfl
      refine bR_sellNow_in (d := 996) ⟨(by omega), (by omega), fun μ1 h1 => ⟨(by omega), (by omega), fun μ2 h2 => bR_pay_in (d := 996) ⟨(by omega), (by omega), fun ν1 k1 => ⟨(by omega), (by omega), fun ν2 k2 => ⟨(by omega), (by omega), ?_, ?_, ?_, ?_⟩⟩⟩⟩⟩
      · rw [k2, ups_hit, k1, ups_fn (by omega), h2, ups_fn (by omega), h1, ups_fn (by omega), e81, q81]
      · rw [k2, k1, h2, h1]; exact ((((gs.mono (by decide) (by decide)).ups rfl (Or.inl (by decide))).ups rfl (Or.inl (by decide))).ups rfl (Or.inl (by decide))).ups rfl (Or.inl (by decide))
      · rw [k2, ups_ne (by decide), ups_ne (by decide), k1, ups_ne (by decide), ups_ne (by decide), h2, ups_ne (by decide), ups_ne (by decide), h1, ups_ne (by decide), ups_ne (by decide)]; exact gk
      · have t2 : μ2 81 = mvC (σ 81) (8 * a + x) (8 * b + x) := by rw [h2, ups_row, h1, ups_row, e81, q81]; rfl
        rw [k2, ups_row, k1, ups_row, t2, mv_py (by omega) (by omega) (by omega) (by omega)]; rfl
  · refine pair_q (v := -1) hI (by decide) ?_ ?_
    · refine bF_sell_in (d := 994) ⟨ha, hb, hc, hd, hI.cOK, fun q => absurd ?_ hx, fun _ => ⟨rfl, rfl⟩⟩
      have fa : σ 38 (27 + a * 8 + x) = σ 81 (8 * a + x) := Cor.eq hR.S (Cor.fst (by omega) (by omega))
      have mb : σ 38 (3 + b * 4 + 0) = σ 81 (60 + b) := Cor.eq hR.S (Cor.money (by omega))
      rw [← fa, ← mb]; omega
    · exact bR_sell_in (d := 994) ⟨ha, hb, hc, hd, hI.mOK, fun q => absurd (by omega) hx, fun _ => ⟨rfl, rfl⟩⟩
