/-! ===== PLEDGES: one more, one less; CASES pledge, redeem ===== -/
/-- places from a on (five to a pledge) up to b move down by one pledge -/
def shP (f : Int → Int) (a b : Int) : Int → Int := fun j => if 74 + a - 5 ≤ j ∧ j < 74 + b - 5 then f (j + 5) else f j
def dropM (g : Int → Int) (k : Int) : Int → Int := fu (shP g (5 * (k + 1)) 40) 73 (g 73 - 1)
def dropC (f : Int → Int) (k : Int) : Int → Int := fu (cpy f f (75 + (k + 1) * 5 + 0) (75 + k * 5 + 0) (75 + f 1 * 5 + 0 - (75 + (k + 1) * 5 + 0))) 1 (f 1 - 1)
theorem dropM_at {g : Int → Int} {k j w : Int} (hk : 0 ≤ k) (h0 : 0 ≤ j) (h1 : j < 7) (w0 : 0 ≤ w) (w1 : w < 5) : dropM g k (74 + 5 * j + w) = if j < k then g (74 + 5 * j + w) else g (74 + 5 * (j + 1) + w) := by
  unfold dropM
  rw [fu_ne (by omega)]
  unfold shP
  by_cases q : j < k
  · rw [if_pos q, if_neg (by omega)]
  · rw [if_neg q, if_pos (by omega)]; congr 1; omega
theorem dropM_lo {g : Int → Int} {k i : Int} (hk : 0 ≤ k) (h : i < 73) : dropM g k i = g i := by
  unfold dropM; rw [fu_ne (by omega)]; unfold shP; rw [if_neg (by omega)]
theorem dropM_hi {g : Int → Int} {k i : Int} (h : 109 ≤ i) : dropM g k i = g i := by
  unfold dropM; rw [fu_ne (by omega)]; unfold shP; rw [if_neg (by omega)]
theorem dropC_lo {g : Int → Int} {k i : Int} (hk : 0 ≤ k) (h : i < 75) (h1 : i ≠ 1) : dropC g k i = g i := by
  unfold dropC; rw [fu_ne h1]; unfold cpy; rw [if_neg (by omega)]
theorem dropC_hi {g : Int → Int} {k i : Int} (h : 115 ≤ i) (hn : g 1 ≤ 8) : dropC g k i = g i := by
  unfold dropC; rw [fu_ne (by omega)]; unfold cpy; rw [if_neg (by omega)]
theorem RowS.drop {c m : Int → Int} {k : Int} (h : RowS c m) (hk : 0 ≤ k ∧ k < m 73) (h8 : m 73 ≤ 8) : RowS (dropC c k) (dropM m k) := by
  obtain ⟨⟨a1, a2⟩, b, e, f⟩ := h
  refine ⟨⟨?_, ?_⟩, fun p p0 p1 => ?_, fun i i0 i1 => ?_, fun i i0 i1 => ?_⟩
  · rw [dropC_lo hk.1 (by decide) (by decide), dropM_lo hk.1 (by decide)]; exact a1
  · unfold dropC dropM; rw [fu_hit, fu_hit, a2]
  · rw [dropC_lo hk.1 (by omega) (by omega), dropC_lo hk.1 (by omega) (by omega), dropC_lo hk.1 (by omega) (by omega), dropC_lo hk.1 (by omega) (by omega), dropM_lo hk.1 (by omega), dropM_lo hk.1 (by omega), dropM_lo hk.1 (by omega), dropM_lo hk.1 (by omega)]; exact b p p0 p1
  · rw [dropC_lo hk.1 (by omega) (by omega), dropM_lo hk.1 (by omega)]; exact e i i0 i1
  · have e73 : dropM m k 73 = m 73 - 1 := by unfold dropM; exact fu_hit
    rw [e73] at i1
    unfold dropC dropM
    rw [fu_ne (by omega), fu_ne (by omega)]
    unfold cpy shP
    rw [a2]
    by_cases q : i < 5 * k
    · rw [if_neg (by omega), if_neg (by omega)]; exact f i i0 (by omega)
    · rw [if_pos (by omega), if_pos (by omega), show 75 + (k + 1) * 5 + 0 + (75 + i - (75 + k * 5 + 0)) = 75 + (i + 5) by omega, show 74 + i + 5 = 74 + (i + 5) by omega]
      exact f (i + 5) (by omega) (by omega)
theorem RowW.drop {T P D B : Int} {m : Int → Int} {k : Int} (h : RowW T P D B m) (hk : 0 ≤ k ∧ k < m 73) : RowW T P D (B - 999) (dropM m k) := by
  obtain ⟨a, b, c, d, e, f, g, p⟩ := h
  have e73 : dropM m k 73 = m 73 - 1 := by unfold dropM; exact fu_hit
  have s1 : sumI (fun i => dropM m k (54 + i)) 6 = sumI (fun i => m (54 + i)) 6 := sumI_congr (fun i i0 i1 => dropM_lo hk.1 (by omega))
  have s2 : sumI (dropM m k) 48 = sumI m 48 := sumI_congr (fun i i0 i1 => dropM_lo hk.1 (by omega))
  have s3 : sumI (fun i => dropM m k (60 + i)) 6 = sumI (fun i => m (60 + i)) 6 := sumI_congr (fun i i0 i1 => dropM_lo hk.1 (by omega))
  refine ⟨fun i i0 i1 => ?_, fun i i0 i1 => ?_, ?_, ?_, fun i i0 i1 => ?_, ?_, ?_, fun j j0 j1 => ?_⟩
  · rw [dropM_lo hk.1 (by omega)]; exact a i i0 i1
  · rw [dropM_lo hk.1 (by omega)]; exact b i i0 i1
  · rw [s1, s2, e73]; omega
  · rw [s3]; exact d
  · rw [dropM_lo hk.1 (by omega)]; exact e i i0 i1
  · rw [dropM_lo hk.1 (by decide)]; exact f
  · rw [e73]; omega
  · rw [e73] at j1
    have t0 := dropM_at (g := m) hk.1 j0 (by omega) (Int.le_refl 0) (by decide)
    rw [Int.add_zero, Int.add_zero] at t0
    have t1 := dropM_at (g := m) (w := 1) hk.1 j0 (by omega) (by decide) (by decide)
    have t2 := dropM_at (g := m) (w := 2) hk.1 j0 (by omega) (by decide) (by decide)
    have t3 := dropM_at (g := m) (w := 3) hk.1 j0 (by omega) (by decide) (by decide)
    have t4 := dropM_at (g := m) (w := 4) hk.1 j0 (by omega) (by decide) (by decide)
    unfold PledV
    rw [t0, t1, t2, t3, t4, dropM_lo hk.1 (by decide)]
    by_cases q : j < k
    · simp only [if_pos q]; exact p j j0 (by omega)
    · simp only [if_neg q]
      have := p (j + 1) (by omega) (by omega)
      unfold PledV at this
      exact this
theorem LogR.drop {c m : Int → Int} {k : Int} (h : LogR c m) (hk : 0 ≤ k) (h8 : c 1 ≤ 8) : LogR (dropC c k) (dropM m k) := by
  refine ⟨?_, fun i i0 i1 => ?_⟩
  · rw [dropC_lo hk (by decide) (by decide), dropM_hi (by decide)]; exact h.1
  · rw [dropM_hi (by decide : (109 : Int) ≤ 114)] at i1 ⊢
    rw [dropC_hi (by omega) h8, dropM_hi (by omega), dropM_hi (by omega), dropM_hi (by omega), dropM_hi (by omega)]; exact h.2 i i0 i1
theorem LogW.drop {m : Int → Int} {k : Int} (h : LogW m) : LogW (dropM m k) := by
  refine ⟨?_, fun i i0 i1 => ?_⟩
  · rw [dropM_hi (by decide)]; exact h.1
  · rw [dropM_hi (by decide : (109 : Int) ≤ 114)] at i1
    unfold LogV
    rw [dropM_hi (by omega), dropM_hi (by omega), dropM_hi (by omega), dropM_hi (by omega)]; exact h.2 i i0 i1
theorem RG.dropC {c : Int → Int} {k : Int} (h : RG c) (h1 : rg (c 1 - 1)) : RG (dropC c k) := (h.ofcpy h).offu h1
theorem RG.dropM {c : Int → Int} {k : Int} (h : RG c) (h1 : rg (c 73 - 1)) : RG (dropM c k) := by
  refine RG.offu (fun j => ?_) h1
  unfold shP; split
  · exact h _
  · exact h _
theorem dropR {σ : Mem} (d : Nat) {k : Int} (hk : 0 ≤ k ∧ k < 8) {Q : RV → Mem → Prop} (h : Q rV (su σ 81 (dropM (σ 81) k))) : Cl (d + 1) mR_dropPledge [aR 64, aI k] σ Q := by
  refine bR_dropPledge_in ?_
  have key : Ev (d + 1) mR_dropPledge 6 [vR 64, vI k, vI (5 * (k + 1))] [] (su σ 81 (shP (σ 81) (5 * (k + 1)) (5 * (k + 1)))) Q := by
    refine loop_up (G := fun x => Ev (d + 1) mR_dropPledge 6 [vR 64, vI k, vI x] [] (su σ 81 (shP (σ 81) (5 * (k + 1)) x)) Q) (hi := 40) _ (5 * (k + 1)) rfl (by omega) (fun x x0 x1 g => ?_) ?_
    · refine bR_dropPledge_6 ⟨⟨by omega, by omega⟩, fun q => absurd q (by omega), fun _ => ⟨(by omega), (by omega), (by omega), (by omega), ?_⟩⟩
      have e : ups (su σ 81 (shP (σ 81) (5 * (k + 1)) x)) 81 (74 + x - 5) ((su σ 81 (shP (σ 81) (5 * (k + 1)) x)) 81 (74 + x)) = su σ 81 (shP (σ 81) (5 * (k + 1)) (x + 1)) := by
        rw [ups_su, su_eq]
        congr 1
        funext j; unfold fu shP
        by_cases q : j = 74 + x - 5
        · rw [if_pos q, if_neg (by omega), if_pos (by omega)]; congr 1; omega
        · rw [if_neg q]
          by_cases q2 : 74 + 5 * (k + 1) - 5 ≤ j ∧ j < 74 + x - 5
          · rw [if_pos q2, if_pos (by omega)]
          · rw [if_neg q2, if_neg (by omega)]
      rw [e]; exact g
    · refine bR_dropPledge_6 ⟨by decide, fun _ => ?_, fun q => absurd q (by decide)⟩
      have e : (su σ 81 (shP (σ 81) (5 * (k + 1)) 40)) 81 73 = σ 81 73 := by
        rw [su_eq]; unfold shP; rw [if_neg (by omega)]
      rw [e, ups_su]; exact h
  have e0 : su σ 81 (shP (σ 81) (5 * (k + 1)) (5 * (k + 1))) = σ := by
    have : shP (σ 81) (5 * (k + 1)) (5 * (k + 1)) = σ 81 := by funext j; unfold shP; exact if_neg (by omega)
    rw [this, su_id]
  rw [e0] at key; exact key
/-- a pledge's thing goes over, the pledge is gone -/
def hoC (c : Int → Int) (k q : Int) : Int → Int := dropC (fu c (27 + q * 8 + c (75 + k * 5 + 2)) (c (27 + q * 8 + c (75 + k * 5 + 2)) + 1)) k
def hoM (m : Int → Int) (k q : Int) : Int → Int := dropM (fu m (8 * q + m (74 + 5 * k + 2)) (m (8 * q + m (74 + 5 * k + 2)) + 1)) k
theorem handOver37 {σ : Mem} (d : Nat) {k q : Int} (hk : 0 ≤ k ∧ k < σ 38 1) (h8 : σ 38 1 ≤ 8) (hq : 0 ≤ q ∧ q < 6) (hx : 0 ≤ σ 38 (75 + k * 5 + 2) ∧ σ 38 (75 + k * 5 + 2) < 8) {Q : RV → Mem → Prop} (h : Q rV (su σ 38 (hoC (σ 38) k q))) : Cl (d + 3) mSt_handOver [aR 37, aI k, aI q] σ Q := by
  have e1 : ∀ v, fu (σ 38) (27 + q * 8 + σ 38 (75 + k * 5 + 2)) v 1 = σ 38 1 := fun v => fu_ne (by omega)
  refine bSt_handOver_r37_in ⟨(by omega), (by omega), (by omega), (by omega), fun μ7 h7 => ?_⟩
  have t7 : μ7 38 = fu (σ 38) (27 + q * 8 + σ 38 (75 + k * 5 + 2)) (σ 38 (27 + q * 8 + σ 38 (75 + k * 5 + 2)) + 1) := by rw [h7, ups_row]
  have t71 : μ7 38 1 = σ 38 1 := by rw [t7, e1]
  refine ⟨(by omega), (by omega), by rw [t71]; omega, by rw [t71]; omega, by rw [t71]; omega, fun μ20 h20 μ21 h21 => ?_⟩
  have e : μ21 = su σ 38 (hoC (σ 38) k q) := by
    rw [h21, h20, ups_su, h7]
    funext b
    by_cases eb : b = 38
    · subst eb
      rw [su_eq, su_eq, su_eq, ups_row]
      unfold hoC dropC
      congr 1
      unfold cpy
      rw [if_neg (by omega)]
    · rw [su_ne eb, su_ne eb, ups_ne eb]
  rw [e]; exact h
theorem RowS.ho {c m : Int → Int} {k q : Int} (h : RowS c m) (hk : 0 ≤ k ∧ k < m 73) (h8 : m 73 ≤ 8) (hq : 0 ≤ q ∧ q < 6) (hx : 0 ≤ m (74 + 5 * k + 2) ∧ m (74 + 5 * k + 2) < 8) : RowS (hoC c k q) (hoM m k q) := by
  have e : c (75 + k * 5 + 2) = m (74 + 5 * k + 2) := by
    have := h.2.2.2 (5 * k + 2) (by omega) (by omega)
    rw [show 75 + (5 * k + 2) = 75 + k * 5 + 2 by omega, show 74 + (5 * k + 2) = 74 + 5 * k + 2 by omega] at this
    exact this
  unfold hoC hoM
  rw [e]
  have h1 : RowS (fu c (27 + q * 8 + m (74 + 5 * k + 2)) (c (27 + q * 8 + m (74 + 5 * k + 2)) + 1)) (fu m (8 * q + m (74 + 5 * k + 2)) (m (8 * q + m (74 + 5 * k + 2)) + 1)) := h.add (Cor.fst hq hx)
  exact h1.drop (by rw [fu_ne (by omega)]; exact hk) (by rw [fu_ne (by omega)]; exact h8)
theorem RowW.ho {T P D B : Int} {m : Int → Int} {k q : Int} (h : RowW T P D B m) (hk : 0 ≤ k ∧ k < m 73) (hq : 0 ≤ q ∧ q < 6) (hx : 0 ≤ m (74 + 5 * k + 2) ∧ m (74 + 5 * k + 2) < 8) : RowW T P D B (hoM m k q) := by
  have n0 := h.1 (8 * q + m (74 + 5 * k + 2)) (by omega) (by omega)
  have h1 : RowW T P D (B + 999) (fu m (8 * q + m (74 + 5 * k + 2)) (m (8 * q + m (74 + 5 * k + 2)) + 1)) := h.set (by omega) (by omega) (fun z => by omega) (fun z => by omega) (fun z => by omega) (by rw [if_neg (by omega), if_pos (by omega)]; omega)
  have h2 := h1.drop (k := k) (by rw [fu_ne (by omega)]; exact hk)
  rw [show B + 999 - 999 = B by omega] at h2
  exact h2
theorem LogR.ho {c m : Int → Int} {k q : Int} (h : LogR c m) (hk : 0 ≤ k) (h8 : c 1 ≤ 8) (hq : 0 ≤ q ∧ q < 6) (hx : 0 ≤ m (74 + 5 * k + 2) ∧ m (74 + 5 * k + 2) < 8) (hx2 : 0 ≤ c (75 + k * 5 + 2) ∧ c (75 + k * 5 + 2) < 8) : LogR (hoC c k q) (hoM m k q) := LogR.drop (h.upd ⟨by omega, by omega⟩ (by omega)) hk (by rw [fu_ne (by omega)]; exact h8)
theorem LogW.ho {m : Int → Int} {k q : Int} (h : LogW m) (hq : 0 ≤ q ∧ q < 6) (hx : 0 ≤ m (74 + 5 * k + 2) ∧ m (74 + 5 * k + 2) < 8) : LogW (hoM m k q) := LogW.drop (h.upd (by omega))
/-- one more pledge -/
def plC (c : Int → Int) (n p o x v t : Int) : Int → Int := fu (fu (fu (fu (fu (fu c (75 + n * 5 + 0) p) (75 + n * 5 + 1) o) (75 + n * 5 + 2) x) (75 + n * 5 + 3) v) (75 + n * 5 + 4) t) 1 (n + 1)
def plM (m : Int → Int) (n p o x v t : Int) : Int → Int := fu (fu (fu (fu (fu (fu m (74 + 5 * n) p) (74 + 5 * n + 1) o) (74 + 5 * n + 2) x) (74 + 5 * n + 3) v) (74 + 5 * n + 4) t) 73 (n + 1)
theorem plM_o {m : Int → Int} {n p o x v t i : Int} (h : i < 74 + 5 * n ∨ 74 + 5 * n + 4 < i) (h1 : i ≠ 73) : plM m n p o x v t i = m i := by
  unfold plM; rw [fu_ne h1, fu_ne (by omega), fu_ne (by omega), fu_ne (by omega), fu_ne (by omega), fu_ne (by omega)]
theorem plC_o {m : Int → Int} {n p o x v t i : Int} (h : i < 75 + 5 * n ∨ 75 + 5 * n + 4 < i) (h1 : i ≠ 1) : plC m n p o x v t i = m i := by
  unfold plC; rw [fu_ne h1, fu_ne (by omega), fu_ne (by omega), fu_ne (by omega), fu_ne (by omega), fu_ne (by omega)]
theorem plM_in {m : Int → Int} {n p o x v t : Int} (hn : 0 ≤ n) : plM m n p o x v t (74 + 5 * n) = p ∧ plM m n p o x v t (74 + 5 * n + 1) = o ∧ plM m n p o x v t (74 + 5 * n + 2) = x ∧ plM m n p o x v t (74 + 5 * n + 3) = v ∧ plM m n p o x v t (74 + 5 * n + 4) = t ∧ plM m n p o x v t 73 = n + 1 := by
  unfold plM
  refine ⟨?_, ?_, ?_, ?_, ?_, fu_hit⟩
  · rw [fu_ne (by omega), fu_ne (by omega), fu_ne (by omega), fu_ne (by omega), fu_ne (by omega), fu_hit]
  · rw [fu_ne (by omega), fu_ne (by omega), fu_ne (by omega), fu_ne (by omega), fu_hit]
  · rw [fu_ne (by omega), fu_ne (by omega), fu_ne (by omega), fu_hit]
  · rw [fu_ne (by omega), fu_ne (by omega), fu_hit]
  · rw [fu_ne (by omega), fu_hit]
theorem plC_in {m : Int → Int} {n p o x v t : Int} (hn : 0 ≤ n) : plC m n p o x v t (75 + 5 * n) = p ∧ plC m n p o x v t (75 + 5 * n + 1) = o ∧ plC m n p o x v t (75 + 5 * n + 2) = x ∧ plC m n p o x v t (75 + 5 * n + 3) = v ∧ plC m n p o x v t (75 + 5 * n + 4) = t ∧ plC m n p o x v t 1 = n + 1 := by
  unfold plC
  refine ⟨?_, ?_, ?_, ?_, ?_, fu_hit⟩
  · rw [fu_ne (by omega), fu_ne (by omega), fu_ne (by omega), fu_ne (by omega), fu_ne (by omega), show 75 + 5 * n = 75 + n * 5 + 0 by omega, fu_hit]
  · rw [fu_ne (by omega), fu_ne (by omega), fu_ne (by omega), fu_ne (by omega), show 75 + 5 * n + 1 = 75 + n * 5 + 1 by omega, fu_hit]
  · rw [fu_ne (by omega), fu_ne (by omega), fu_ne (by omega), show 75 + 5 * n + 2 = 75 + n * 5 + 2 by omega, fu_hit]
  · rw [fu_ne (by omega), fu_ne (by omega), show 75 + 5 * n + 3 = 75 + n * 5 + 3 by omega, fu_hit]
  · rw [fu_ne (by omega), show 75 + 5 * n + 4 = 75 + n * 5 + 4 by omega, fu_hit]
theorem RowS.pl {c m : Int → Int} {n p o x v t : Int} (h : RowS c m) (hn : m 73 = n) (h0 : 0 ≤ n ∧ n < 8) : RowS (plC c n p o x v t) (plM m n p o x v t) := by
  obtain ⟨⟨a1, a2⟩, b, e, f⟩ := h
  have i1 := plM_in (m := m) (n := n) (p := p) (o := o) (x := x) (v := v) (t := t) h0.1
  have i2 := plC_in (m := c) (n := n) (p := p) (o := o) (x := x) (v := v) (t := t) h0.1
  refine ⟨⟨?_, ?_⟩, fun q q0 q1 => ?_, fun i j0 j1 => ?_, fun i j0 j1 => ?_⟩
  · rw [plC_o (by omega) (by decide), plM_o (by omega) (by decide)]; exact a1
  · rw [i2.2.2.2.2.2, i1.2.2.2.2.2]
  · rw [plC_o (by omega) (by omega), plC_o (by omega) (by omega), plC_o (by omega) (by omega), plC_o (by omega) (by omega), plM_o (by omega) (by omega), plM_o (by omega) (by omega), plM_o (by omega) (by omega), plM_o (by omega) (by omega)]; exact b q q0 q1
  · rw [plC_o (by omega) (by omega), plM_o (by omega) (by omega)]; exact e i j0 j1
  · rw [i1.2.2.2.2.2] at j1
    by_cases q : i < 5 * n
    · rw [plC_o (by omega) (by omega), plM_o (by omega) (by omega)]; exact f i j0 (by rw [hn]; exact q)
    · have w : i = 5 * n ∨ i = 5 * n + 1 ∨ i = 5 * n + 2 ∨ i = 5 * n + 3 ∨ i = 5 * n + 4 := by omega
      rcases w with rfl | rfl | rfl | rfl | rfl
      · rw [i2.1, i1.1]
      · rw [← Int.add_assoc, ← Int.add_assoc, i2.2.1, i1.2.1]
      · rw [← Int.add_assoc, ← Int.add_assoc, i2.2.2.1, i1.2.2.1]
      · rw [← Int.add_assoc, ← Int.add_assoc, i2.2.2.2.1, i1.2.2.2.1]
      · rw [← Int.add_assoc, ← Int.add_assoc, i2.2.2.2.2.1, i1.2.2.2.2.1]
theorem RowW.pl {T P D B : Int} {m : Int → Int} {n p o x v t : Int} (h : RowW T P D B m) (hn : m 73 = n) (h0 : 0 ≤ n ∧ n < 8) (hp : 0 ≤ p ∧ p < P) (ho : 0 ≤ o ∧ o < P) (hpo : p ≠ o) (hx : 0 ≤ x ∧ x < T) (hv : 0 ≤ v ∧ v ≤ 99) (ht : m 72 < t ∧ t ≤ 1029) : RowW T P D (B + 999) (plM m n p o x v t) := by
  obtain ⟨a, b, c, d, e, f, g, k⟩ := h
  have i1 := plM_in (m := m) (n := n) (p := p) (o := o) (x := x) (v := v) (t := t) h0.1
  have s1 : sumI (fun i => plM m n p o x v t (54 + i)) 6 = sumI (fun i => m (54 + i)) 6 := sumI_congr (fun i i0 i1 => plM_o (by omega) (by omega))
  have s2 : sumI (plM m n p o x v t) 48 = sumI m 48 := sumI_congr (fun i i0 i1 => plM_o (by omega) (by omega))
  have s3 : sumI (fun i => plM m n p o x v t (60 + i)) 6 = sumI (fun i => m (60 + i)) 6 := sumI_congr (fun i i0 i1 => plM_o (by omega) (by omega))
  refine ⟨fun i i0 i1 => ?_, fun i i0 i1 => ?_, ?_, ?_, fun i i0 i1 => ?_, ?_, ?_, fun j j0 j1 => ?_⟩
  · rw [plM_o (by omega) (by omega)]; exact a i i0 i1
  · rw [plM_o (by omega) (by omega)]; exact b i i0 i1
  · rw [s1, s2, i1.2.2.2.2.2]; omega
  · rw [s3]; exact d
  · rw [plM_o (by omega) (by omega)]; exact e i i0 i1
  · rw [plM_o (by omega) (by decide)]; exact f
  · rw [i1.2.2.2.2.2]; omega
  · rw [i1.2.2.2.2.2] at j1
    unfold PledV
    rw [plM_o (i := 72) (by omega) (by decide)]
    by_cases q : j = n
    · subst q
      rw [i1.1, i1.2.1, i1.2.2.1, i1.2.2.2.1, i1.2.2.2.2.1]
      exact ⟨hp, ho, hpo, hx, hv, ht⟩
    · rw [plM_o (by omega) (by omega), plM_o (by omega) (by omega), plM_o (by omega) (by omega), plM_o (by omega) (by omega), plM_o (by omega) (by omega)]
      exact k j j0 (by omega)
theorem LogR.pl {c m : Int → Int} {n p o x v t : Int} (h : LogR c m) (h0 : 0 ≤ n ∧ n < 8) : LogR (plC c n p o x v t) (plM m n p o x v t) := by
  refine ⟨?_, fun i i0 i1 => ?_⟩
  · rw [plC_o (by omega) (by decide), plM_o (by omega) (by decide)]; exact h.1
  · rw [plM_o (i := 114) (by omega) (by decide)] at i1 ⊢
    rw [plC_o (by omega) (by omega), plM_o (by omega) (by omega), plM_o (by omega) (by omega), plM_o (by omega) (by omega), plM_o (by omega) (by omega)]; exact h.2 i i0 i1
theorem LogW.pl {m : Int → Int} {n p o x v t : Int} (h : LogW m) (h0 : 0 ≤ n ∧ n < 8) : LogW (plM m n p o x v t) := by
  refine ⟨?_, fun i i0 i1 => ?_⟩
  · rw [plM_o (by omega) (by decide)]; exact h.1
  · rw [plM_o (i := 114) (by omega) (by decide)] at i1
    unfold LogV
    rw [plM_o (by omega) (by omega), plM_o (by omega) (by omega), plM_o (by omega) (by omega), plM_o (by omega) (by omega)]; exact h.2 i i0 i1
theorem RG.pl {c : Int → Int} {n p o x v t : Int} (h : RG c) (h1 : rg p) (h2 : rg o) (h3 : rg x) (h4 : rg v) (h5 : rg t) (h6 : rg (n + 1)) : RG (plC c n p o x v t) ∧ RG (plM c n p o x v t) :=
  ⟨(((((h.offu h1).offu h2).offu h3).offu h4).offu h5).offu h6, (((((h.offu h1).offu h2).offu h3).offu h4).offu h5).offu h6⟩
theorem py_fu {c : Int → Int} {a w i j v : Int} (h1 : a ≠ i) (h2 : a ≠ j) : fu (pyC c i j v) a w = pyC (fu c a w) i j v := by
  have e1 : fu c a w i = c i := fu_ne (fun z => h1 z.symm)
  unfold pyC
  rw [e1]
  have e2 : fu (fu c a w) i (c i - v) j = fu c i (c i - v) j := by
    unfold fu
    by_cases q : j = i
    · rw [if_pos q, if_pos q]
    · rw [if_neg q, if_neg q, if_neg (fun z => h2 z.symm)]
  rw [e2, fu_comm (i := j) (j := a) (fun z => h2 z.symm), fu_comm (i := i) (j := a) (fun z => h1 z.symm)]
theorem c_pledge : ∀ (a b c d e : Int) (σ : Mem), Inv σ → rg a → rg b → rg c → rg d → rg e → Pair mF_pledge mR_pledge [aI a, aI b, aI c, aI d, aI e] σ := by
  intro a b x v t σ hI ha hb hc hd he
  obtain ⟨⟨m1, m2, m3, m4⟩, ⟨n1, n2, n3, n4⟩, -⟩ := hI.1.2.1
  have hR := hI.1.2.2.1
  have hV := hI.1.2.2.2
  obtain ⟨C1, C2, C3, C4, C5, C6⟩ := hI.2.1.2.2.2
  obtain ⟨⟨p1, p2, p3⟩, p4, -⟩ := hI.2.1.1
  have h73 := hV.n73
  have h72 := hV.W.2.2.2.2.2.1
  have r1 := hR.1
  by_cases hx : (0 ≤ a ∧ a < σ 64 38) ∧ (0 ≤ b ∧ b < σ 64 38) ∧ a ≠ b ∧ (0 ≤ x ∧ x < σ 64 37) ∧ 0 < σ 81 (8 * a + x) ∧ (0 ≤ v ∧ v ≤ 99) ∧ v ≤ σ 81 (60 + b) ∧ (1 ≤ t ∧ t ≤ 30) ∧ σ 81 73 < 8
  · obtain ⟨x1, x2, x3, x4, x5, x6, x7, x8, x9⟩ := hx
    have fa : σ 38 (27 + a * 8 + x) = σ 81 (8 * a + x) := Cor.eq hR.S (Cor.fst (by omega) (by omega))
    have ma : σ 38 (3 + a * 4 + 0) = σ 81 (60 + a) := Cor.eq hR.S (Cor.money (by omega))
    have mb : σ 38 (3 + b * 4 + 0) = σ 81 (60 + b) := Cor.eq hR.S (Cor.money (by omega))
    have qa := hV.W.f48 (Int.le_refl _) (i := 8 * a + x) (by omega) (by omega)
    have wa := hV.W.m594 (p := a) (by omega) (by omega)
    have wb := hV.W.m594 (p := b) (by omega) (by omega)
    generalize hn : σ 81 73 = n at *
    have s1 : RowS (fu (pyC (σ 38) (3 + b * 4 + 0) (3 + a * 4 + 0) v) (27 + a * 8 + x) (pyC (σ 38) (3 + b * 4 + 0) (3 + a * 4 + 0) v (27 + a * 8 + x) - 1)) (fu (pyC (σ 81) (60 + b) (60 + a) v) (8 * a + x) (pyC (σ 81) (60 + b) (60 + a) v (8 * a + x) - 1)) := (hR.S.py (Cor.money (by omega)) (Cor.money (by omega))).sub (Cor.fst (by omega) (by omega))
    have e1 : pyC (σ 38) (3 + b * 4 + 0) (3 + a * 4 + 0) v (27 + a * 8 + x) = σ 38 (27 + a * 8 + x) := pyC_o (by omega) (by omega)
    have e2 : pyC (σ 81) (60 + b) (60 + a) v (8 * a + x) = σ 81 (8 * a + x) := pyC_o (by omega) (by omega)
    rw [e1, e2] at s1
    have w1 : RowW (σ 64 37) (σ 64 38) 999 (47952 - 999) (fu (pyC (σ 81) (60 + b) (60 + a) v) (8 * a + x) (σ 81 (8 * a + x) - 1)) := (hV.W.py (v := v) (o := b) (p := a) (by omega) (by omega) (by omega) (by omega) (by omega)).set (by omega) (by omega) (fun z => by omega) (fun z => by omega) (fun z => by omega) (by rw [if_neg (by omega), if_pos (by omega), e2]; omega)
    have w2 := w1.pl (n := n) (p := a) (o := b) (x := x) (v := v) (t := σ 81 72 + t) (by rw [fu_ne (by omega), pyC_o (by omega) (by omega), hn]) (by omega) x1 x2 x3 x4 x6 (by rw [fu_ne (by omega), pyC_o (by omega) (by omega)]; omega)
    rw [show (47952 - 999 + 999 : Int) = 47952 by decide] at w2
    have l1 := ((hR.L.py (a := 3 + b * 4 + 0) (b := 3 + a * 4 + 0) (a' := 60 + b) (b' := 60 + a) (v := v) ⟨by omega, by omega⟩ ⟨by omega, by omega⟩ (by omega) (by omega)).upd (a := 27 + a * 8 + x) (b := 8 * a + x) (v := σ 38 (27 + a * 8 + x) - 1) (w := σ 81 (8 * a + x) - 1) ⟨by omega, by omega⟩ (by omega)).pl (n := n) (p := a) (o := b) (x := x) (v := v) (t := σ 81 72 + t) (by omega)
    have l2 := ((hV.L.py (a := 60 + b) (b := 60 + a) (v := v) (by omega) (by omega)).upd (b := 8 * a + x) (w := σ 81 (8 * a + x) - 1) (by omega)).pl (n := n) (p := a) (o := b) (x := x) (v := v) (t := σ 81 72 + t) (by omega)
    have g1 := ((C1.py (a := 3 + b * 4 + 0) (b := 3 + a * 4 + 0) (v := v) (by rw [mb]; exact ⟨by omega, by omega⟩) (by rw [fu_ne (by omega), ma]; exact ⟨by omega, by omega⟩)).offu (i := 27 + a * 8 + x) (v := σ 38 (27 + a * 8 + x) - 1) (by rw [fa]; exact ⟨by omega, by omega⟩)).pl (n := n) (p := a) (o := b) (x := x) (v := v) (t := σ 81 72 + t) ⟨by omega, by omega⟩ ⟨by omega, by omega⟩ ⟨by omega, by omega⟩ ⟨by omega, by omega⟩ ⟨by omega, by omega⟩ ⟨by omega, by omega⟩
    have g2 := ((C2.py (a := 60 + b) (b := 60 + a) (v := v) ⟨by omega, by omega⟩ (by rw [fu_ne (by omega)]; exact ⟨by omega, by omega⟩)).offu (i := 8 * a + x) (v := σ 81 (8 * a + x) - 1) ⟨by omega, by omega⟩).pl (n := n) (p := a) (o := b) (x := x) (v := v) (t := σ 81 72 + t) ⟨by omega, by omega⟩ ⟨by omega, by omega⟩ ⟨by omega, by omega⟩ ⟨by omega, by omega⟩ ⟨by omega, by omega⟩ ⟨by omega, by omega⟩
    refine pair_act (v := n + 1) hI ⟨by omega, by omega⟩ (RowR.of (s1.pl (n := n) (p := a) (o := b) (x := x) (v := v) (t := σ 81 72 + t) (by rw [fu_ne (by omega), pyC_o (by omega) (by omega), hn]) (by omega)) l1) (RowV.of w2 l2) g1.1 g2.2 ?_ (fun τ hs => ?_)
    · refine bF_pledge_in (d := 994) ⟨ha, hb, hc, hd, hI.cOK, fun _ => ⟨he, fun q => absurd q (by omega), fun _ => ⟨fun q => absurd q (by omega), fun _ => ⟨⟨by omega, by omega⟩, fun q => absurd q (by omega), fun _ => keepC (by omega) 996 (fun τ hs hk => ?_)⟩⟩⟩, fun q => absurd (by rw [fa, mb]; omega) q⟩
      have e38 := hs.1 38 rfl
      have t1 : τ 38 1 = n := by rw [e38]; omega
      refine bSt_doPledge_in (d := 995) (bSt_pay_r37_in (d := 995) ⟨(by omega), (by omega), fun μ4 h4 => ⟨(by omega), (by omega), fun μ8 h8 => ⟨(by omega), (by omega), fun ν1 k1 => ?_⟩⟩⟩)
      rw [t1]
      refine ⟨(by omega), (by omega), fun ν2 k2 => ⟨(by omega), (by omega), fun ν3 k3 => ⟨(by omega), (by omega), fun ν4 k4 => ⟨(by omega), (by omega), fun ν5 k5 => ⟨(by omega), (by omega), fun ν6 k6 ν7 k7 => ?_⟩⟩⟩⟩⟩
      have t8 : μ8 38 = pyC (σ 38) (3 + b * 4 + 0) (3 + a * 4 + 0) v := by rw [h8, ups_row, h4, ups_row, e38]; rfl
      have u1 : ν1 38 = fu (pyC (σ 38) (3 + b * 4 + 0) (3 + a * 4 + 0) v) (27 + a * 8 + x) (σ 38 (27 + a * 8 + x) - 1) := by rw [k1, ups_row, t8, e1]
      have u5 : ν5 38 0 = σ 81 72 := by
        rw [k5, ups_fn (by omega), k4, ups_fn (by omega), k3, ups_fn (by omega), k2, ups_fn (by omega), u1, fu_ne (by omega), pyC_o (by omega) (by omega)]; exact r1.1
      have u6 : ν6 38 1 = n := by
        rw [k6, ups_fn (by omega), k5, ups_fn (by omega), k4, ups_fn (by omega), k3, ups_fn (by omega), k2, ups_fn (by omega), u1, fu_ne (by omega), pyC_o (by omega) (by omega)]; omega
      have u7 : ν7 38 = plC (fu (pyC (σ 38) (3 + b * 4 + 0) (3 + a * 4 + 0) v) (27 + a * 8 + x) (σ 38 (27 + a * 8 + x) - 1)) n a b x v (σ 81 72 + t) := by
        rw [k7, ups_row, u6, k6, ups_row, u5, k5, ups_row, k4, ups_row, k3, ups_row, k2, ups_row, u1]; rfl
      refine ⟨?_, ?_, ?_, u7⟩
      · rw [u7, (plC_in (by omega)).2.2.2.2.2]
      · rw [k7, k6, k5, k4, k3, k2, k1, h8, h4]
        exact (((((((((hs.mono (by decide) (by decide)).ups rfl (Or.inl (by decide))).ups rfl (Or.inl (by decide))).ups rfl (Or.inl (by decide))).ups rfl (Or.inl (by decide))).ups rfl (Or.inl (by decide))).ups rfl (Or.inl (by decide))).ups rfl (Or.inl (by decide))).ups rfl (Or.inl (by decide))).ups rfl (Or.inl (by decide))
      · have o : ∀ y, y ≠ 38 → ν7 y = τ y := fun y hy => by rw [k7, ups_ne hy, k6, ups_ne hy, k5, ups_ne hy, k4, ups_ne hy, k3, ups_ne hy, k2, ups_ne hy, k1, ups_ne hy, h8, ups_ne hy, h4, ups_ne hy]
        rw [o 41 (by decide), o 42 (by decide)]; exact hk
    · have q81 := hs.1 81 rfl
      have q64 := hs.1 64 rfl
      refine bR_pledge_in (d := 994) ⟨ha, hb, hc, hd, by unfold mOK; rw [q64, q81]; exact hI.mOK, fun _ => ⟨he, fun _ => ⟨by rw [q81, hn]; exact ⟨by omega, by omega⟩, fun _ => keepR (by rw [q64]; omega) 997 (fun ω gs gk => ?_), fun q => absurd q (by rw [q81, hn]; omega)⟩, fun q => absurd x8 q⟩, fun q => absurd (by rw [q64, q81]; omega) q⟩
      have e81 := gs.1 81 rfl
      refine ⟨(by omega), (by omega), fun μ1 h1 => bR_pay_in (d := 997) ⟨(by omega), (by omega), fun μ2 h2 => ⟨(by omega), (by omega), fun μ3 h3 => ?_⟩⟩⟩
      have t3 : μ3 81 = fu (pyC (σ 81) (60 + b) (60 + a) v) (8 * a + x) (σ 81 (8 * a + x) - 1) := by
        rw [py_fu (by omega) (by omega), h3, ups_row, h2, ups_row, h1, ups_row, e81, q81]; rfl
      have t73 : μ3 81 73 = n := by rw [t3, fu_ne (by omega), pyC_o (by omega) (by omega), hn]
      rw [t73]
      refine ⟨(by omega), (by omega), fun ν2 k2 => ⟨(by omega), (by omega), fun ν3 k3 => ⟨(by omega), (by omega), fun ν4 k4 => ⟨(by omega), (by omega), fun ν5 k5 => ⟨(by omega), (by omega), fun ν6 k6 ν7 k7 => ?_⟩⟩⟩⟩⟩
      have u5 : ν5 81 72 = σ 81 72 := by
        rw [k5, ups_fn (by omega), k4, ups_fn (by omega), k3, ups_fn (by omega), k2, ups_fn (by omega), t3, fu_ne (by omega), pyC_o (by omega) (by omega)]
      have u6 : ν6 81 73 = n := by
        rw [k6, ups_fn (by omega), k5, ups_fn (by omega), k4, ups_fn (by omega), k3, ups_fn (by omega), k2, ups_fn (by omega), t73]
      have u7 : ν7 81 = plM (fu (pyC (σ 81) (60 + b) (60 + a) v) (8 * a + x) (σ 81 (8 * a + x) - 1)) n a b x v (σ 81 72 + t) := by
        rw [k7, ups_row, u6, k6, ups_row, u5, k5, ups_row, k4, ups_row, k3, ups_row, k2, ups_row, t3]; rfl
      refine ⟨?_, ?_, ?_, u7⟩
      · rw [u7, (plM_in (by omega)).2.2.2.2.2]
      · rw [k7, k6, k5, k4, k3, k2, h3, h2, h1]
        exact (((((((((gs.mono (by decide) (by decide)).ups rfl (Or.inl (by decide))).ups rfl (Or.inl (by decide))).ups rfl (Or.inl (by decide))).ups rfl (Or.inl (by decide))).ups rfl (Or.inl (by decide))).ups rfl (Or.inl (by decide))).ups rfl (Or.inl (by decide))).ups rfl (Or.inl (by decide))).ups rfl (Or.inl (by decide))
      · have o : ∀ y, y ≠ 81 → ν7 y = ω y := fun y hy => by rw [k7, ups_ne hy, k6, ups_ne hy, k5, ups_ne hy, k4, ups_ne hy, k3, ups_ne hy, k2, ups_ne hy, h3, ups_ne hy, h2, ups_ne hy, h1, ups_ne hy]
        rw [o 64 (by decide), o 90 (by decide)]; exact gk
  · refine pair_q (v := -1) hI (by decide) ?_ ?_
    · refine bF_pledge_in (d := 994) ⟨ha, hb, hc, hd, hI.cOK, fun q => ⟨he, fun _ => ⟨rfl, rfl⟩, fun q2 => ⟨fun _ => ⟨rfl, rfl⟩, fun q3 => ⟨⟨by omega, by omega⟩, fun _ => ⟨rfl, rfl⟩, fun q4 => absurd ?_ hx⟩⟩⟩, fun _ => ⟨rfl, rfl⟩⟩
      have fa : σ 38 (27 + a * 8 + x) = σ 81 (8 * a + x) := Cor.eq hR.S (Cor.fst (by omega) (by omega))
      have mb : σ 38 (3 + b * 4 + 0) = σ 81 (60 + b) := Cor.eq hR.S (Cor.money (by omega))
      rw [← fa, ← mb]; omega
    · exact bR_pledge_in (d := 994) ⟨ha, hb, hc, hd, hI.mOK, fun q => ⟨he, fun q2 => ⟨⟨by omega, by omega⟩, fun q3 => absurd (by omega) hx, fun _ => ⟨rfl, rfl⟩⟩, fun _ => ⟨rfl, rfl⟩⟩, fun _ => ⟨rfl, rfl⟩⟩
