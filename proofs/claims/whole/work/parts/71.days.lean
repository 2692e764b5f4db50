/-! ===== A DAY'S END, whole; SEQUENCES OF ACTS; CASE days ===== -/
/-- the reference's row as the class's tells it -/
def mOf (c : Int → Int) : Int → Int := fun i => if i < 48 then c (27 + i) else if i < 54 then c (3 + 4 * (i - 48) + 3) else if i < 60 then c (3 + 4 * (i - 54) + 2) else if i < 66 then c (3 + 4 * (i - 60)) else if i < 72 then c (3 + 4 * (i - 66) + 1) else if i = 72 then c 0 else if i = 73 then c 1 else c (i + 1)
theorem mOf_eq {c m : Int → Int} (h : RowS c m) {i : Int} (h0 : 0 ≤ i) (h1 : i < 74 ∨ (74 ≤ i ∧ i < 74 + 5 * m 73)) : mOf c i = m i := by
  unfold mOf
  by_cases q1 : i < 48
  · rw [if_pos q1]; exact h.2.2.1 i h0 q1
  rw [if_neg q1]
  by_cases q2 : i < 54
  · rw [if_pos q2, (h.2.1 (i - 48) (by omega) (by omega)).2.2.2]; congr 1; omega
  rw [if_neg q2]
  by_cases q3 : i < 60
  · rw [if_pos q3, (h.2.1 (i - 54) (by omega) (by omega)).2.2.1]; congr 1; omega
  rw [if_neg q3]
  by_cases q4 : i < 66
  · rw [if_pos q4, (h.2.1 (i - 60) (by omega) (by omega)).1]; congr 1; omega
  rw [if_neg q4]
  by_cases q5 : i < 72
  · rw [if_pos q5, (h.2.1 (i - 66) (by omega) (by omega)).2.1]; congr 1; omega
  rw [if_neg q5]
  by_cases q6 : i = 72
  · rw [if_pos q6, h.1.1, q6]
  rw [if_neg q6]
  by_cases q7 : i = 73
  · rw [if_pos q7, h.1.2, q7]
  rw [if_neg q7]
  have := h.2.2.2 (i - 74) (by omega) (by omega)
  rw [show 75 + (i - 74) = i + 1 by omega, show 74 + (i - 74) = i by omega] at this
  exact this
theorem plsM_eq {c m : Int → Int} (h : RowS c m) (h8 : 0 ≤ m 73 ∧ m 73 ≤ 8) : plsM (mOf c) = plsM m := by
  have e : mOf c 73 = m 73 := mOf_eq h (by decide) (Or.inl (by decide))
  unfold plsM
  rw [e]
  refine List.map_congr_left (fun k hk => ?_)
  have hk2 := List.mem_range.mp hk
  funext w
  by_cases q : 0 ≤ w ∧ w < 5
  · rw [if_pos q, if_pos q]; exact mOf_eq h (by omega) (Or.inr (by omega))
  · rw [if_neg q, if_neg q]
def ageM (m : Int → Int) (P : Int) : Int → Int := fun i => if 66 ≤ i ∧ i < 66 + P then min 99 (m i + 1) else m i
def ageC (c : Int → Int) (P : Int) : Int → Int := fun j => if 3 ≤ j ∧ j < 3 + 4 * P ∧ (j - 3) % 4 = 1 then min 99 (c j + 1) else c j
def DayM (P : Int) (m m' : Int → Int) : Prop := PlM m' ((plsM m).filter (nd (m 72 + 1))) ∧ (∀ i, 0 ≤ i → i < 48 → m' i = m i + cntp (m 72 + 1) (plsM m) i) ∧ (∀ i, 48 ≤ i → i < 66 → m' i = m i) ∧ (∀ i, 66 ≤ i → i < 72 → m' i = if i < 66 + P then min 99 (m i + 1) else m i) ∧ m' 72 = m 72 + 1 ∧ (∀ i, 114 ≤ i → m' i = m i) ∧ RG m'
def DayC (P : Int) (c c' : Int → Int) : Prop := PlC c' ((plsM (mOf c)).filter (nd (c 0 + 1))) ∧ (∀ i, 0 ≤ i → i < 48 → c' (27 + i) = c (27 + i) + cntp (c 0 + 1) (plsM (mOf c)) i) ∧
  (∀ p, 0 ≤ p → p < 6 → c' (3 + 4 * p) = c (3 + 4 * p) ∧ c' (3 + 4 * p + 1) = (if p < P then min 99 (c (3 + 4 * p + 1) + 1) else c (3 + 4 * p + 1)) ∧ c' (3 + 4 * p + 2) = c (3 + 4 * p + 2) ∧ c' (3 + 4 * p + 3) = c (3 + 4 * p + 3)) ∧ c' 0 = c 0 + 1 ∧ (∀ i, i = 2 ∨ 115 ≤ i → c' i = c i) ∧ RG c'
theorem RowS.day {P : Int} {c m c' m' : Int → Int} (h : RowS c m) (h8 : 0 ≤ m 73 ∧ m 73 ≤ 8) (hC : DayC P c c') (hM : DayM P m m') : RowS c' m' := by
  obtain ⟨a1, a2, a3, a4, a5, -⟩ := hC
  obtain ⟨b1, b2, b3, b4, b5, b6, -⟩ := hM
  rw [plsM_eq h h8, h.1.1] at a1 a2
  refine ⟨⟨by rw [a4, b5, h.1.1], by rw [a1.1, b1.1]⟩, fun p p0 p1 => ?_, fun i i0 i1 => ?_, fun i i0 i1 => ?_⟩
  · obtain ⟨k1, k2, k3, k4⟩ := h.2.1 p p0 p1
    obtain ⟨l1, l2, l3, l4⟩ := a3 p p0 p1
    refine ⟨by rw [l1, b3 _ (by omega) (by omega), k1], ?_, by rw [l3, b3 _ (by omega) (by omega), k3], by rw [l4, b3 _ (by omega) (by omega), k4]⟩
    rw [l2, b4 _ (by omega) (by omega), k2]
    by_cases q : p < P
    · rw [if_pos q, if_pos (by omega)]
    · rw [if_neg q, if_neg (by omega)]
  · rw [a2 i i0 i1, b2 i i0 i1, h.2.2.1 i i0 i1]
  · rw [b1.1] at i1
    obtain ⟨k, w, hk, hw, rfl⟩ : ∃ (k : Nat) (w : Int), k < ((plsM m).filter (nd (m 72 + 1))).length ∧ (0 ≤ w ∧ w < 5) ∧ i = 5 * (k : Int) + w := ⟨(i / 5).toNat, i % 5, (by omega), (by omega), (by omega)⟩
    obtain ⟨e, he⟩ : ∃ e, ((plsM m).filter (nd (m 72 + 1)))[k]? = some e := ⟨_, List.getElem?_eq_getElem hk⟩
    rw [← Int.add_assoc, ← Int.add_assoc, a1.2.2 k e he w hw.1 hw.2, b1.2.2 k e he w hw.1 hw.2]
theorem LogR.day {P : Int} {c m c' m' : Int → Int} (h : LogR c m) (hC : DayC P c c') (hM : DayM P m m') : LogR c' m' := by
  obtain ⟨-, -, -, -, a5, -⟩ := hC
  obtain ⟨-, -, -, -, -, b6, -⟩ := hM
  refine ⟨by rw [a5 2 (Or.inl rfl), b6 114 (by decide)]; exact h.1, fun i i0 i1 => ?_⟩
  rw [b6 114 (by decide)] at i1 ⊢
  rw [a5 _ (Or.inr (by omega)), b6 _ (by omega), b6 _ (by omega), b6 _ (by omega), b6 _ (by omega)]; exact h.2 i i0 i1
theorem LogW.day {P : Int} {m m' : Int → Int} (h : LogW m) (hM : DayM P m m') : LogW m' := by
  obtain ⟨-, -, -, -, -, b6, -⟩ := hM
  refine ⟨by rw [b6 114 (by decide)]; exact h.1, fun i i0 i1 => ?_⟩
  rw [b6 114 (by decide)] at i1
  unfold LogV
  rw [b6 _ (by omega), b6 _ (by omega), b6 _ (by omega), b6 _ (by omega)]; exact h.2 i i0 i1
theorem plsM_val {T P D B : Int} {m : Int → Int} (h : RowW T P D B m) : ∀ e ∈ plsM m, (0 ≤ e 0 ∧ e 0 < P) ∧ (0 ≤ e 1 ∧ e 1 < P) ∧ e 0 ≠ e 1 ∧ (0 ≤ e 2 ∧ e 2 < T) ∧ (0 ≤ e 3 ∧ e 3 ≤ 99) ∧ (m 72 < e 4 ∧ e 4 ≤ 1029) := by
  intro e he
  unfold plsM at he
  obtain ⟨k, hk, rfl⟩ := List.mem_map.mp he
  have hk2 := List.mem_range.mp hk
  have := h.2.2.2.2.2.2.2 (k : Int) (by omega) (by omega)
  unfold PledV at this
  simpa using this
theorem RowW.day {T P D B : Int} {m m' : Int → Int} (hT : 0 ≤ T ∧ T ≤ 8) (hP : 0 ≤ P ∧ P ≤ 6) (h : RowW T P D B m) (hM : DayM P m m') : RowW T P (D + 1) B m' := by
  have hv := plsM_val h
  obtain ⟨a, b, c, d, e, f, g, k⟩ := h
  obtain ⟨b1, b2, b3, b4, b5, b6, -⟩ := hM
  have hl := plsM_ok g
  have hlen := ndue_len (D := m 72 + 1) (plsM m)
  have s1 : sumI (fun i => m' (54 + i)) 6 = sumI (fun i => m (54 + i)) 6 := sumI_congr (fun i i0 i1 => b3 _ (by omega) (by omega))
  have s3 : sumI (fun i => m' (60 + i)) 6 = sumI (fun i => m (60 + i)) 6 := sumI_congr (fun i i0 i1 => b3 _ (by omega) (by omega))
  have s2 : sumI m' 48 = sumI m 48 + ndue (m 72 + 1) (plsM m) := by
    have : sumI m' 48 = sumI (fun i => m i + cntp (m 72 + 1) (plsM m) i) 48 := sumI_congr (fun i i0 i1 => b2 i i0 (by omega))
    rw [this, sumI_add, sumI_cntp _ (fun e he => by have := hv e he; omega)]
  have l73 := b1.1
  have m73 := hl.1
  refine ⟨fun i i0 i1 => ?_, fun p p0 p1 => ?_, ?_, ?_, fun p p0 p1 => ?_, ?_, ?_, fun j j0 j1 => ?_⟩
  · by_cases q1 : i < 48
    · have := (cntp_r (D := m 72 + 1) (i := i) (plsM m)).1
      have := a i i0 (by omega)
      rw [b2 i i0 q1]; omega
    · by_cases q2 : i < 66
      · rw [b3 i (by omega) q2]; exact a i i0 i1
      · rw [b4 i (by omega) i1]
        have := a i i0 i1
        split <;> omega
  · rw [b3 _ (by omega) (by omega)]; exact b p p0 p1
  · rw [s1, s2, l73]; omega
  · rw [s3]; exact d
  · rw [b4 _ (by omega) (by omega)]
    have := e p p0 p1
    split <;> omega
  · rw [b5]; omega
  · rw [l73]
    have := b1.2.1
    omega
  · rw [l73] at j1
    obtain ⟨j, rfl⟩ : ∃ n : Nat, j = (n : Int) := ⟨_, toN j0⟩
    have hk : j < ((plsM m).filter (nd (m 72 + 1))).length := by omega
    obtain ⟨x, hx⟩ : ∃ x, ((plsM m).filter (nd (m 72 + 1)))[j]? = some x := ⟨_, List.getElem?_eq_getElem hk⟩
    have hm := List.mem_filter.mp (List.mem_of_getElem? hx)
    have w1 := hv x hm.1
    have w2 : m 72 + 1 < x 4 := by have := hm.2; unfold nd at this; exact of_decide_eq_true this
    have g0 := b1.2.2 j x hx 0 (by decide) (by decide)
    have g1 := b1.2.2 j x hx 1 (by decide) (by decide)
    have g2 := b1.2.2 j x hx 2 (by decide) (by decide)
    have g3 := b1.2.2 j x hx 3 (by decide) (by decide)
    have g4 := b1.2.2 j x hx 4 (by decide) (by decide)
    rw [Int.add_zero] at g0
    unfold PledV
    rw [g0, g1, g2, g3, g4, b5]
    exact ⟨w1.1, w1.2.1, w1.2.2.1, w1.2.2.2.1, w1.2.2.2.2.1, w2, w1.2.2.2.2.2.2⟩
theorem endDayR {σ : Mem} {T P D B : Int} (hW : RowW T P D B (σ 81)) (hB : B ≤ 47952) (hT : T ≤ 8) (hP : σ 64 38 = P ∧ 0 ≤ P ∧ P ≤ 6) (hD : D ≤ 5000) (hg : RG (σ 81)) (d : Nat) {Q : RV → Mem → Prop} (h : ∀ τ, Sm σ τ [81] [] → DayM P (σ 81) (τ 81) → Q rV τ) : Cl (d + 2) mR_endDay [aR 64] σ Q := by
  have f72 := hW.2.2.2.2.2.1
  have hv := plsM_val hW
  have hl := plsM_ok hW.2.2.2.2.2.2.1
  refine bR_endDay_in ?_
  have key : Ev (d + 2) mR_endDay 13 [vR 64, vI 0] [] (su σ 81 (ageM (fu (σ 81) 72 (σ 81 72 + 1)) 0)) Q := by
    refine loop_up (G := fun x => Ev (d + 2) mR_endDay 13 [vR 64, vI x] [] (su σ 81 (ageM (fu (σ 81) 72 (σ 81 72 + 1)) x)) Q) (hi := P) _ 0 rfl hP.2.1 (fun x x0 x1 g => ?_) ?_
    · have e1 : (su σ 81 (ageM (fu (σ 81) 72 (σ 81 72 + 1)) x)) 81 (66 + x) = σ 81 (66 + x) := by
        rw [su_eq]; unfold ageM; rw [if_neg (by omega), fu_ne (by omega)]
      have e2 : (su σ 81 (ageM (fu (σ 81) 72 (σ 81 72 + 1)) x)) 64 38 = P := by rw [su_ne (by decide)]; exact hP.1
      have r1 := hW.1 (66 + x) (by omega) (by omega)
      have r2 := hW.2.2.2.2.1 x x0 (by omega)
      refine bR_endDay_13 ⟨⟨by omega, by omega⟩, by rw [e2]; exact ⟨by omega, by omega⟩, fun q => absurd q (by rw [e2]; omega), fun _ => ⟨(by omega), (by omega), by rw [e1]; exact ⟨by omega, by omega⟩, ?_⟩⟩
      rw [e1]
      have e : ups (su σ 81 (ageM (fu (σ 81) 72 (σ 81 72 + 1)) x)) 81 (66 + x) (min 99 (σ 81 (66 + x) + 1)) = su σ 81 (ageM (fu (σ 81) 72 (σ 81 72 + 1)) (x + 1)) := by
        rw [ups_su]
        congr 1
        funext j
        by_cases q : j = 66 + x
        · rw [q, fu_hit]; unfold ageM; rw [if_pos (by omega), fu_ne (by omega)]
        · rw [fu_ne q]; unfold ageM
          by_cases q2 : 66 ≤ j ∧ j < 66 + x
          · rw [if_pos q2, if_pos (by omega)]
          · rw [if_neg q2, if_neg (by omega)]
      rw [e]; exact g
    · have e2 : (su σ 81 (ageM (fu (σ 81) 72 (σ 81 72 + 1)) P)) 64 38 = P := by rw [su_ne (by decide)]; exact hP.1
      refine bR_endDay_13 ⟨⟨by omega, by omega⟩, by rw [e2]; exact ⟨by omega, by omega⟩, fun _ => ?_, fun q => absurd q (by rw [e2]; omega)⟩
      have e81 : (su σ 81 (ageM (fu (σ 81) 72 (σ 81 72 + 1)) P)) 81 = ageM (fu (σ 81) 72 (σ 81 72 + 1)) P := su_eq
      have sm : Sm σ (su σ 81 (ageM (fu (σ 81) 72 (σ 81 72 + 1)) P)) [81] [] := Sm.refl.su rfl (by decide)
      generalize hτ : su σ 81 (ageM (fu (σ 81) 72 (σ 81 72 + 1)) P) = τ at *
      have lo : ∀ i, i ≠ 72 → (i < 66 ∨ 72 ≤ i) → τ 81 i = σ 81 i := fun i h1 h2 => by
        rw [e81]; unfold ageM; rw [if_neg (by omega), fu_ne h1]
      have l72 : τ 81 72 = σ 81 72 + 1 := by rw [e81]; unfold ageM; rw [if_neg (by omega), fu_hit]
      have hP1 : PlM (τ 81) ([] ++ plsM (σ 81)) := ⟨by rw [lo 73 (by decide) (by omega)]; exact hl.1, hl.2.1, fun k e he w w0 w1 => by rw [lo _ (by omega) (by omega)]; exact hl.2.2 k e he w w0 w1⟩
      have hgτ : RG (τ 81) := by
        rw [e81]
        intro i
        unfold ageM
        split
        · have r1 := hW.1 i (by omega) (by omega)
          have r2 := hW.2.2.2.2.1 (i - 66) (by omega) (by omega)
          rw [show 66 + (i - 66) = i by omega] at r2
          rw [fu_ne (by omega)]; exact ⟨by omega, by omega⟩
        · exact hg.offu ⟨by omega, by omega⟩ i
      refine endR (d := d) (D := σ 81 72 + 1) (plsM (σ 81)) [] τ hP1 l72 hgτ (fun e he => by have := hv e he; omega) (fun i i0 i1 => ?_) (fun τ' a1 a2 a3 a4 a5 => h τ' (sm.trans a1) ⟨a2, fun i i0 i1 => ?_, fun i i0 i1 => ?_, fun i i0 i1 => ?_, ?_, fun i hi => ?_, a3⟩)
      · have := hW.f48 hB i0 i1
        rw [lo i (by omega) (by omega)]
        have := hl.2.1
        omega
      · rw [a4 i i0 i1, lo i (by omega) (by omega)]
      · rw [a5 i (Or.inl (by omega)), lo i (by omega) (by omega)]
      · rw [a5 i (Or.inl (by omega)), e81]; unfold ageM
        by_cases q : i < 66 + P
        · rw [if_pos (by omega), if_pos q, fu_ne (by omega)]
        · rw [if_neg (by omega), if_neg q, fu_ne (by omega)]
      · rw [a5 72 (Or.inl (by decide)), l72]
      · rw [a5 i (Or.inr hi), lo i (by omega) (by omega)]
  have e0 : su σ 81 (ageM (fu (σ 81) 72 (σ 81 72 + 1)) 0) = ups σ 81 72 (σ 81 72 + 1) := by
    have : ageM (fu (σ 81) 72 (σ 81 72 + 1)) 0 = fu (σ 81) 72 (σ 81 72 + 1) := by funext j; unfold ageM; exact if_neg (by omega)
    rw [this]; rfl
  rw [e0] at key; exact key
theorem endDayC37 {σ : Mem} {T P D B : Int} {m : Int → Int} (hS : RowS (σ 38) m) (hW : RowW T P D B m) (hB : B ≤ 47952) (hT : T ≤ 8) (hP : σ 15 1 = P ∧ 0 ≤ P ∧ P ≤ 6) (hD : D ≤ 5000) (hg : RG (σ 38)) (d : Nat) {Q : RV → Mem → Prop} (h : ∀ τ, Sm σ τ [38] [] → DayC P (σ 38) (τ 38) → Q rV τ) : Cl (d + 4) mSt_endDay [aR 37] σ Q := by
  have f72 := hW.2.2.2.2.2.1
  have hv := plsM_val hW
  have hl := plsM_ok hW.2.2.2.2.2.2.1
  have h0 := hS.1.1
  have hpe := plsM_eq hS hW.2.2.2.2.2.2.1
  refine bSt_endDay_r37_in ?_
  have key : Ev (d + 4) mSt_endDay 12 [vR 37, vI 0] [] (su σ 38 (ageC (fu (σ 38) 0 (σ 38 0 + 1)) 0)) Q := by
    refine loop_up (G := fun x => Ev (d + 4) mSt_endDay 12 [vR 37, vI x] [] (su σ 38 (ageC (fu (σ 38) 0 (σ 38 0 + 1)) x)) Q) (hi := P) _ 0 rfl hP.2.1 (fun x x0 x1 g => ?_) ?_
    · have e1 : (su σ 38 (ageC (fu (σ 38) 0 (σ 38 0 + 1)) x)) 38 (3 + x * 4 + 1) = σ 38 (3 + x * 4 + 1) := by
        rw [su_eq]; unfold ageC; rw [if_neg (by omega), fu_ne (by omega)]
      have e2 : (su σ 38 (ageC (fu (σ 38) 0 (σ 38 0 + 1)) x)) 15 1 = P := by rw [su_ne (by decide)]; exact hP.1
      have e3 : σ 38 (3 + x * 4 + 1) = m (66 + x) := Cor.eq hS (Cor.age (by omega))
      have r1 := hW.1 (66 + x) (by omega) (by omega)
      have r2 := hW.2.2.2.2.1 x x0 (by omega)
      refine bSt_endDay_r37_12 ⟨⟨by omega, by omega⟩, by rw [e2]; exact ⟨by omega, by omega⟩, fun q => absurd q (by rw [e2]; omega), fun _ => ⟨(by omega), (by omega), by rw [e1]; exact ⟨by omega, by omega⟩, ?_⟩⟩
      rw [e1]
      have e : ups (su σ 38 (ageC (fu (σ 38) 0 (σ 38 0 + 1)) x)) 38 (3 + x * 4 + 1) (min 99 (σ 38 (3 + x * 4 + 1) + 1)) = su σ 38 (ageC (fu (σ 38) 0 (σ 38 0 + 1)) (x + 1)) := by
        rw [ups_su]
        congr 1
        funext j
        by_cases q : j = 3 + x * 4 + 1
        · rw [q, fu_hit]; unfold ageC; rw [if_pos (by omega), fu_ne (by omega)]
        · rw [fu_ne q]; unfold ageC
          by_cases q2 : 3 ≤ j ∧ j < 3 + 4 * x ∧ (j - 3) % 4 = 1
          · rw [if_pos q2, if_pos (by omega)]
          · rw [if_neg q2, if_neg (by omega)]
      rw [e]; exact g
    · have e2 : (su σ 38 (ageC (fu (σ 38) 0 (σ 38 0 + 1)) P)) 15 1 = P := by rw [su_ne (by decide)]; exact hP.1
      refine bSt_endDay_r37_12 ⟨⟨by omega, by omega⟩, by rw [e2]; exact ⟨by omega, by omega⟩, fun _ => ?_, fun q => absurd q (by rw [e2]; omega)⟩
      have e81 : (su σ 38 (ageC (fu (σ 38) 0 (σ 38 0 + 1)) P)) 38 = ageC (fu (σ 38) 0 (σ 38 0 + 1)) P := su_eq
      have sm : Sm σ (su σ 38 (ageC (fu (σ 38) 0 (σ 38 0 + 1)) P)) [38] [] := Sm.refl.su rfl (by decide)
      generalize hτ : su σ 38 (ageC (fu (σ 38) 0 (σ 38 0 + 1)) P) = τ at *
      have lo : ∀ i, i ≠ 0 → (i < 3 ∨ 27 ≤ i ∨ (i - 3) % 4 ≠ 1) → τ 38 i = σ 38 i := fun i h1 h2 => by
        rw [e81]; unfold ageC; rw [if_neg (by omega), fu_ne h1]
      have l72 : τ 38 0 = σ 38 0 + 1 := by rw [e81]; unfold ageC; rw [if_neg (by omega), fu_hit]
      have hc := PlC.of hS hl
      have hlr : (plsM m).reverse.length = (plsM m).length := List.length_reverse
      have hP1 : PlC (τ 38) ((plsM m).reverse.reverse ++ []) := by
        rw [List.reverse_reverse, List.append_nil]
        exact ⟨by rw [lo 1 (by decide) (by omega)]; exact hc.1, hc.2.1, fun k e he w w0 w1 => by rw [lo _ (by omega) (by omega)]; exact hc.2.2 k e he w w0 w1⟩
      have hgτ : RG (τ 38) := by
        rw [e81]
        intro i
        unfold ageC
        split
        · rename_i z
          obtain ⟨p, hp⟩ : ∃ p, i = 3 + p * 4 + 1 := ⟨(i - 4) / 4, (by omega)⟩
          have e3 : σ 38 (3 + p * 4 + 1) = m (66 + p) := Cor.eq hS (Cor.age (by omega))
          have r1 := hW.1 (66 + p) (by omega) (by omega)
          have r2 := hW.2.2.2.2.1 p (by omega) (by omega)
          rw [fu_ne (by omega), hp, e3]; exact ⟨by omega, by omega⟩
        · exact hg.offu ⟨by omega, by omega⟩ i
      have e1 : τ 38 1 - 1 = ((plsM m).reverse.length : Int) - 1 := by rw [lo 1 (by decide) (by omega), hS.1.2, hlr, hl.1]
      rw [e1]
      refine endC37 (d := d) (D := σ 38 0 + 1) (plsM m).reverse [] τ hP1 l72 hgτ (fun e he => by have := hv e (List.mem_reverse.mp he); omega) (fun i i0 i1 => ?_) (fun τ' a1 a2 a3 a4 a5 => h τ' (sm.trans a1) ⟨?_, fun i i0 i1 => ?_, fun p p0 p1 => ⟨?_, ?_, ?_, ?_⟩, ?_, fun i hi => ?_, a3⟩)
      · have := hW.f48 hB i0 i1
        have e4 := hS.2.2.1 i i0 i1
        rw [lo _ (by omega) (by omega), hlr]
        have := hl.2.1
        omega
      · rw [hpe]
        rw [List.reverse_reverse, List.append_nil] at a2; exact a2
      · rw [hpe, a4 i i0 i1, lo _ (by omega) (by omega), cntp_rev]
      · rw [a5 _ (Or.inl (by omega)), lo _ (by omega) (by omega)]
      · rw [a5 _ (Or.inl (by omega)), e81]; unfold ageC
        by_cases q : p < P
        · rw [if_pos (by omega), if_pos q, fu_ne (by omega)]
        · rw [if_neg (by omega), if_neg q, fu_ne (by omega)]
      · rw [a5 _ (Or.inl (by omega)), lo _ (by omega) (by omega)]
      · rw [a5 _ (Or.inl (by omega)), lo _ (by omega) (by omega)]
      · rw [a5 0 (Or.inl (by decide)), l72]
      · rcases hi with hi | hi
        · rw [a5 i (Or.inl (by omega)), lo i (by omega) (by omega)]
        · rw [a5 i (Or.inr hi), lo i (by omega) (by omega)]
  have e0 : su σ 38 (ageC (fu (σ 38) 0 (σ 38 0 + 1)) 0) = ups σ 38 0 (σ 38 0 + 1) := by
    have : ageC (fu (σ 38) 0 (σ 38 0 + 1)) 0 = fu (σ 38) 0 (σ 38 0 + 1) := by funext j; unfold ageC; exact if_neg (by omega)
    rw [this]; rfl
  rw [e0] at key; exact key
theorem endDayC39 {σ : Mem} {T P D B : Int} {m : Int → Int} (hS : RowS (σ 40) m) (hW : RowW T P D B m) (hB : B ≤ 47952) (hT : T ≤ 8) (hP : σ 15 1 = P ∧ 0 ≤ P ∧ P ≤ 6) (hD : D ≤ 5000) (hg : RG (σ 40)) (d : Nat) {Q : RV → Mem → Prop} (h : ∀ τ, Sm σ τ [40] [] → DayC P (σ 40) (τ 40) → Q rV τ) : Cl (d + 4) mSt_endDay [aR 39] σ Q := by
  have f72 := hW.2.2.2.2.2.1
  have hv := plsM_val hW
  have hl := plsM_ok hW.2.2.2.2.2.2.1
  have h0 := hS.1.1
  have hpe := plsM_eq hS hW.2.2.2.2.2.2.1
  refine bSt_endDay_r39_in ?_
  have key : Ev (d + 4) mSt_endDay 12 [vR 39, vI 0] [] (su σ 40 (ageC (fu (σ 40) 0 (σ 40 0 + 1)) 0)) Q := by
    refine loop_up (G := fun x => Ev (d + 4) mSt_endDay 12 [vR 39, vI x] [] (su σ 40 (ageC (fu (σ 40) 0 (σ 40 0 + 1)) x)) Q) (hi := P) _ 0 rfl hP.2.1 (fun x x0 x1 g => ?_) ?_
    · have e1 : (su σ 40 (ageC (fu (σ 40) 0 (σ 40 0 + 1)) x)) 40 (3 + x * 4 + 1) = σ 40 (3 + x * 4 + 1) := by
        rw [su_eq]; unfold ageC; rw [if_neg (by omega), fu_ne (by omega)]
      have e2 : (su σ 40 (ageC (fu (σ 40) 0 (σ 40 0 + 1)) x)) 15 1 = P := by rw [su_ne (by decide)]; exact hP.1
      have e3 : σ 40 (3 + x * 4 + 1) = m (66 + x) := Cor.eq hS (Cor.age (by omega))
      have r1 := hW.1 (66 + x) (by omega) (by omega)
      have r2 := hW.2.2.2.2.1 x x0 (by omega)
      refine bSt_endDay_r39_12 ⟨⟨by omega, by omega⟩, by rw [e2]; exact ⟨by omega, by omega⟩, fun q => absurd q (by rw [e2]; omega), fun _ => ⟨(by omega), (by omega), by rw [e1]; exact ⟨by omega, by omega⟩, ?_⟩⟩
      rw [e1]
      have e : ups (su σ 40 (ageC (fu (σ 40) 0 (σ 40 0 + 1)) x)) 40 (3 + x * 4 + 1) (min 99 (σ 40 (3 + x * 4 + 1) + 1)) = su σ 40 (ageC (fu (σ 40) 0 (σ 40 0 + 1)) (x + 1)) := by
        rw [ups_su]
        congr 1
        funext j
        by_cases q : j = 3 + x * 4 + 1
        · rw [q, fu_hit]; unfold ageC; rw [if_pos (by omega), fu_ne (by omega)]
        · rw [fu_ne q]; unfold ageC
          by_cases q2 : 3 ≤ j ∧ j < 3 + 4 * x ∧ (j - 3) % 4 = 1
          · rw [if_pos q2, if_pos (by omega)]
          · rw [if_neg q2, if_neg (by omega)]
      rw [e]; exact g
    · have e2 : (su σ 40 (ageC (fu (σ 40) 0 (σ 40 0 + 1)) P)) 15 1 = P := by rw [su_ne (by decide)]; exact hP.1
      refine bSt_endDay_r39_12 ⟨⟨by omega, by omega⟩, by rw [e2]; exact ⟨by omega, by omega⟩, fun _ => ?_, fun q => absurd q (by rw [e2]; omega)⟩
      have e81 : (su σ 40 (ageC (fu (σ 40) 0 (σ 40 0 + 1)) P)) 40 = ageC (fu (σ 40) 0 (σ 40 0 + 1)) P := su_eq
      have sm : Sm σ (su σ 40 (ageC (fu (σ 40) 0 (σ 40 0 + 1)) P)) [40] [] := Sm.refl.su rfl (by decide)
      generalize hτ : su σ 40 (ageC (fu (σ 40) 0 (σ 40 0 + 1)) P) = τ at *
      have lo : ∀ i, i ≠ 0 → (i < 3 ∨ 27 ≤ i ∨ (i - 3) % 4 ≠ 1) → τ 40 i = σ 40 i := fun i h1 h2 => by
        rw [e81]; unfold ageC; rw [if_neg (by omega), fu_ne h1]
      have l72 : τ 40 0 = σ 40 0 + 1 := by rw [e81]; unfold ageC; rw [if_neg (by omega), fu_hit]
      have hc := PlC.of hS hl
      have hlr : (plsM m).reverse.length = (plsM m).length := List.length_reverse
      have hP1 : PlC (τ 40) ((plsM m).reverse.reverse ++ []) := by
        rw [List.reverse_reverse, List.append_nil]
        exact ⟨by rw [lo 1 (by decide) (by omega)]; exact hc.1, hc.2.1, fun k e he w w0 w1 => by rw [lo _ (by omega) (by omega)]; exact hc.2.2 k e he w w0 w1⟩
      have hgτ : RG (τ 40) := by
        rw [e81]
        intro i
        unfold ageC
        split
        · rename_i z
          obtain ⟨p, hp⟩ : ∃ p, i = 3 + p * 4 + 1 := ⟨(i - 4) / 4, (by omega)⟩
          have e3 : σ 40 (3 + p * 4 + 1) = m (66 + p) := Cor.eq hS (Cor.age (by omega))
          have r1 := hW.1 (66 + p) (by omega) (by omega)
          have r2 := hW.2.2.2.2.1 p (by omega) (by omega)
          rw [fu_ne (by omega), hp, e3]; exact ⟨by omega, by omega⟩
        · exact hg.offu ⟨by omega, by omega⟩ i
      have e1 : τ 40 1 - 1 = ((plsM m).reverse.length : Int) - 1 := by rw [lo 1 (by decide) (by omega), hS.1.2, hlr, hl.1]
      rw [e1]
      refine endC39 (d := d) (D := σ 40 0 + 1) (plsM m).reverse [] τ hP1 l72 hgτ (fun e he => by have := hv e (List.mem_reverse.mp he); omega) (fun i i0 i1 => ?_) (fun τ' a1 a2 a3 a4 a5 => h τ' (sm.trans a1) ⟨?_, fun i i0 i1 => ?_, fun p p0 p1 => ⟨?_, ?_, ?_, ?_⟩, ?_, fun i hi => ?_, a3⟩)
      · have := hW.f48 hB i0 i1
        have e4 := hS.2.2.1 i i0 i1
        rw [lo _ (by omega) (by omega), hlr]
        have := hl.2.1
        omega
      · rw [hpe]
        rw [List.reverse_reverse, List.append_nil] at a2; exact a2
      · rw [hpe, a4 i i0 i1, lo _ (by omega) (by omega), cntp_rev]
      · rw [a5 _ (Or.inl (by omega)), lo _ (by omega) (by omega)]
      · rw [a5 _ (Or.inl (by omega)), e81]; unfold ageC
        by_cases q : p < P
        · rw [if_pos (by omega), if_pos q, fu_ne (by omega)]
        · rw [if_neg (by omega), if_neg q, fu_ne (by omega)]
      · rw [a5 _ (Or.inl (by omega)), lo _ (by omega) (by omega)]
      · rw [a5 _ (Or.inl (by omega)), lo _ (by omega) (by omega)]
      · rw [a5 0 (Or.inl (by decide)), l72]
      · rcases hi with hi | hi
        · rw [a5 i (Or.inl (by omega)), lo i (by omega) (by omega)]
        · rw [a5 i (Or.inr hi), lo i (by omega) (by omega)]
  have e0 : su σ 40 (ageC (fu (σ 40) 0 (σ 40 0 + 1)) 0) = ups σ 40 0 (σ 40 0 + 1) := by
    have : ageC (fu (σ 40) 0 (σ 40 0 + 1)) 0 = fu (σ 40) 0 (σ 40 0 + 1) := by funext j; unfold ageC; exact if_neg (by omega)
    rw [this]; rfl
  rw [e0] at key; exact key
