/-! ===== SEQUENCES OF ACTS; CASE days ===== -/
def RelN (T P : Int) (τ ω : Mem) : Prop := RowR (τ 38) (ω 81) ∧ RowV T P (ω 81) ∧ PastR T P (τ 41) (τ 42) (ω 64 45) (ω 90) ∧ RG (τ 38) ∧ RG (ω 81) ∧ RG (τ 42) ∧ RG (ω 90)
theorem Inv.relN {σ : Mem} (h : Inv σ) : RelN (σ 64 37) (σ 64 38) σ σ := ⟨h.1.2.2.1, h.1.2.2.2, pastI_iff.mp h.2.1.1, h.2.1.2.2.2.1, h.2.1.2.2.2.2.1, h.2.1.2.2.2.2.2.1, h.2.1.2.2.2.2.2.2.1⟩
theorem RelN.cg {T P : Int} {τ ω τ' ω' : Mem} (h : RelN T P τ ω) (h1 : τ' 38 = τ 38) (h2 : τ' 41 = τ 41) (h3 : τ' 42 = τ 42) (h4 : ω' 81 = ω 81) (h5 : ω' 64 45 = ω 64 45) (h6 : ω' 90 = ω 90) : RelN T P τ' ω' := by
  unfold RelN; rw [h1, h2, h3, h4, h5, h6]; exact h
theorem pair_seq {F R : Nat} {as : List AV} {σ : Mem} {K : Int → Mem → Prop} (hI : Inv σ)
    (hF : Cl 999 F (aR 11 :: as) σ (fun r τ => ∃ v, r = rI v ∧ rg v ∧ Sm σ τ cSl [] ∧ K v τ))
    (hRf : ∀ v τ, rg v → Sm σ τ cSl [] → K v τ → Cl 999 R (aR 64 :: as) τ (fun r ω => r = rI v ∧ Sm τ ω rSl rJl ∧ RelN (σ 64 37) (σ 64 38) τ ω)) : Pair F R as σ := by
  obtain ⟨-, -, -, -, C5, C6⟩ := hI.2.1.2.2.2
  refine Cl.mono hF (fun r τ h => ?_)
  obtain ⟨v, rfl, hv, hs, hk⟩ := h
  refine ⟨⟨hs.1 0 rfl, hs.1 1 rfl⟩, Cl.mono (hRf v τ hv hs hk) (fun r ω g => ?_)⟩
  obtain ⟨rfl, gs, q1, q2, q3, q4, q5, q6, q7⟩ := g
  have as_ : Sm σ ω actL actJ := (hs.mono (by decide) (by decide)).trans (gs.mono (by decide) (by decide))
  refine ⟨⟨rfl, hv⟩, ⟨by rw [gs.1 0 rfl, hs.1 0 rfl], by rw [gs.1 1 rfl, hs.1 1 rfl]⟩, hI.act as_ (by rw [gs.1 0 rfl, hs.1 0 rfl]) (by rw [gs.1 11 rfl, hs.1 11 rfl]) (by rw [gs.1 12 rfl, hs.1 12 rfl]) (by rw [gs.1 38 rfl]; exact q1) q2 ?_ (hI.2.1.2.1.cg (by rw [gs.1 11 rfl, hs.1 11 rfl]) (by rw [gs.2 63 rfl, hs.1 64 rfl]) (by rw [gs.1 43 rfl, hs.1 43 rfl]) (by rw [gs.1 99 rfl, hs.1 99 rfl]) (by rw [gs.2 37 rfl, hs.1 64 rfl]) (by rw [gs.2 38 rfl, hs.1 64 rfl])) ⟨?_, ?_, ?_, ?_, ?_, ?_⟩⟩
  · refine pastI_iff.mpr ?_
    rw [gs.2 37 rfl, gs.2 38 rfl, hs.1 64 rfl, gs.1 41 rfl, gs.1 42 rfl]
    exact q3
  · rw [gs.1 38 rfl]; exact q4
  · exact q5
  · rw [gs.1 42 rfl]; exact q6
  · exact q7
  · rw [gs.1 43 rfl, hs.1 43 rfl]; exact C5
  · rw [gs.1 99 rfl, hs.1 99 rfl]; exact C6
theorem rowS_mOf (c : Int → Int) : RowS c (mOf c) := by
  refine ⟨⟨?_, ?_⟩, fun p p0 p1 => ⟨?_, ?_, ?_, ?_⟩, fun i i0 i1 => ?_, fun i i0 i1 => ?_⟩
  · rfl
  · rfl
  · unfold mOf; rw [if_neg (by omega), if_neg (by omega), if_neg (by omega), if_pos (by omega)]; congr 1; omega
  · unfold mOf; rw [if_neg (by omega), if_neg (by omega), if_neg (by omega), if_neg (by omega), if_pos (by omega)]; congr 1; omega
  · unfold mOf; rw [if_neg (by omega), if_neg (by omega), if_pos (by omega)]; congr 1; omega
  · unfold mOf; rw [if_neg (by omega), if_pos (by omega)]; congr 1; omega
  · unfold mOf; rw [if_pos (by omega)]
  · unfold mOf; rw [if_neg (by omega), if_neg (by omega), if_neg (by omega), if_neg (by omega), if_neg (by omega), if_neg (by omega), if_neg (by omega)]; congr 1; omega
theorem RG.mOf' {c : Int → Int} (h : RG c) : RG (mOf c) := fun i => by
  unfold mOf
  repeat' split
  all_goals exact h _
theorem RowW.mOf' {T P D B : Int} {c m : Int → Int} (hS : RowS c m) (h : RowW T P D B m) : RowW T P D B (mOf c) := by
  obtain ⟨a, b, c', d, e, f, g, k⟩ := h
  have lo : ∀ i, 0 ≤ i → i < 74 → mOf c i = m i := fun i i0 i1 => mOf_eq hS i0 (Or.inl i1)
  have s1 : sumI (fun i => mOf c (54 + i)) 6 = sumI (fun i => m (54 + i)) 6 := sumI_congr (fun i i0 i1 => lo _ (by omega) (by omega))
  have s2 : sumI (mOf c) 48 = sumI m 48 := sumI_congr (fun i i0 i1 => lo _ (by omega) (by omega))
  have s3 : sumI (fun i => mOf c (60 + i)) 6 = sumI (fun i => m (60 + i)) 6 := sumI_congr (fun i i0 i1 => lo _ (by omega) (by omega))
  refine ⟨fun i i0 i1 => ?_, fun p p0 p1 => ?_, ?_, ?_, fun p p0 p1 => ?_, ?_, ?_, fun j j0 j1 => ?_⟩
  · rw [lo i i0 (by omega)]; exact a i i0 i1
  · rw [lo _ (by omega) (by omega)]; exact b p p0 p1
  · rw [s1, s2, lo 73 (by decide) (by decide)]; exact c'
  · rw [s3]; exact d
  · rw [lo _ (by omega) (by omega)]; exact e p p0 p1
  · rw [lo 72 (by decide) (by decide)]; exact f
  · rw [lo 73 (by decide) (by decide)]; exact g
  · rw [lo 73 (by decide) (by decide)] at j1
    have pl : ∀ w, 0 ≤ w → w < 5 → mOf c (74 + 5 * j + w) = m (74 + 5 * j + w) := fun w w0 w1 => mOf_eq hS (by omega) (Or.inr (by omega))
    have p0 := pl 0 (by decide) (by decide)
    rw [Int.add_zero] at p0
    unfold PledV
    rw [p0, pl 1 (by decide) (by decide), pl 2 (by decide) (by decide), pl 3 (by decide) (by decide), pl 4 (by decide) (by decide), lo 72 (by decide) (by decide)]
    exact k j j0 j1
theorem RowW.D {T P D D' B : Int} {m : Int → Int} (h : RowW T P D B m) (hd : m 72 ≤ D') : RowW T P D' B m := ⟨h.1, h.2.1, h.2.2.1, h.2.2.2.1, h.2.2.2.2.1, ⟨h.2.2.2.2.2.1.1, hd⟩, h.2.2.2.2.2.2.1, h.2.2.2.2.2.2.2⟩
theorem DayC.M {P : Int} {c c' : Int → Int} (h : DayC P c c') : DayM P (mOf c) (mOf c') := by
  obtain ⟨a1, a2, a3, a4, a5, a6⟩ := h
  have e72 : mOf c 72 = c 0 := rfl
  have hS := rowS_mOf c
  have hS' := rowS_mOf c'
  refine ⟨⟨?_, a1.2.1, fun k e he w w0 w1 => ?_⟩, fun i i0 i1 => ?_, fun i i0 i1 => ?_, fun i i0 i1 => ?_, a4, fun i hi => ?_, a6.mOf'⟩
  · rw [e72]; exact a1.1
  · have := a1.2.2 k e he w w0 w1
    have hk : k < ((plsM (mOf c)).filter (nd (c 0 + 1))).length := (List.getElem?_eq_some_iff.mp he).1
    rw [show 75 + 5 * (k : Int) + w = 75 + (5 * (k : Int) + w) by omega, hS'.2.2.2 _ (by omega) (by rw [← hS'.1.2, a1.1]; omega)] at this
    rw [Int.add_assoc]; exact this
  · rw [e72, ← hS'.2.2.1 i i0 i1, ← hS.2.2.1 i i0 i1]; exact a2 i i0 i1
  · by_cases q1 : i < 54
    · have h1 := (hS.2.1 (i - 48) (by omega) (by omega)).2.2.2
      have h2 := (hS'.2.1 (i - 48) (by omega) (by omega)).2.2.2
      rw [show 48 + (i - 48) = i by omega] at h1 h2
      rw [← h1, ← h2]; exact (a3 (i - 48) (by omega) (by omega)).2.2.2
    · by_cases q2 : i < 60
      · have h1 := (hS.2.1 (i - 54) (by omega) (by omega)).2.2.1
        have h2 := (hS'.2.1 (i - 54) (by omega) (by omega)).2.2.1
        rw [show 54 + (i - 54) = i by omega] at h1 h2
        rw [← h1, ← h2]; exact (a3 (i - 54) (by omega) (by omega)).2.2.1
      · have h1 := (hS.2.1 (i - 60) (by omega) (by omega)).1
        have h2 := (hS'.2.1 (i - 60) (by omega) (by omega)).1
        rw [show 60 + (i - 60) = i by omega] at h1 h2
        rw [← h1, ← h2]; exact (a3 (i - 60) (by omega) (by omega)).1
  · have h1 := (hS.2.1 (i - 66) (by omega) (by omega)).2.1
    have h2 := (hS'.2.1 (i - 66) (by omega) (by omega)).2.1
    have h3 := (a3 (i - 66) (by omega) (by omega)).2.1
    rw [show 66 + (i - 66) = i by omega] at h1 h2
    rw [← h1, ← h2, h3]
    by_cases q : i - 66 < P
    · rw [if_pos q, if_pos (by omega)]
    · rw [if_neg q, if_neg (by omega)]
  · unfold mOf
    rw [if_neg (by omega), if_neg (by omega), if_neg (by omega), if_neg (by omega), if_neg (by omega), if_neg (by omega), if_neg (by omega), if_neg (by omega), if_neg (by omega), if_neg (by omega), if_neg (by omega), if_neg (by omega), if_neg (by omega), if_neg (by omega)]
    exact a5 _ (Or.inr (by omega))
/-- one day of the class's: kept, then the day's end -/
def StepD (P : Int) (υ τ : Mem) : Prop := Sm υ τ cSl [] ∧ KC (υ 41) (υ 42) (υ 38) (τ 41) (τ 42) ∧ DayC P (υ 38) (τ 38)
def ChD (P : Int) : Nat → Mem → Mem → Prop
  | 0, σ, τ => τ = σ
  | k + 1, σ, τ => ∃ υ, StepD P σ υ ∧ ChD P k υ τ
theorem ChD.sm {P : Int} : ∀ {k : Nat} {σ τ : Mem}, ChD P k σ τ → Sm σ τ cSl []
  | 0, σ, τ, h => by cases h; exact Sm.refl
  | k + 1, σ, τ, h => by
    obtain ⟨υ, h1, h2⟩ := h
    exact h1.1.trans h2.sm
/-- what the class's part allows -/
def ClN (T P D : Int) (υ : Mem) : Prop := RowW T P D 47952 (mOf (υ 38)) ∧ RG (υ 38) ∧ (0 ≤ υ 41 1 ∧ υ 41 1 < 40) ∧ (0 ≤ υ 41 2 ∧ υ 41 2 ≤ 40)
theorem KC.r {c41 c42 c c41' c42' : Int → Int} (h : KC c41 c42 c c41' c42') (h1 : 0 ≤ c41 2) : (0 ≤ c41' 1 ∧ c41' 1 < 40) ∧ (0 ≤ c41' 2 ∧ c41' 2 ≤ 40) := by
  have a := h.1; have b := h.2.1; omega
theorem RelN.cl {T P D : Int} {τ ω : Mem} (h : RelN T P τ ω) (hd : ω 81 72 ≤ D) : ClN T P D τ := by
  obtain ⟨q1, q2, q3, q4, q5, q6, q7⟩ := h
  have := q3.1; have := q3.2.1
  exact ⟨((q2.W).D hd).mOf' q1.S, q4, (by omega), (by omega)⟩
theorem ClN.day {T P D : Int} {υ τ : Mem} (hT : 0 ≤ T ∧ T ≤ 8) (hP : 0 ≤ P ∧ P ≤ 6) (h : ClN T P D υ) (hs : StepD P υ τ) : ClN T P (D + 1) τ :=
  ⟨h.1.day hT hP hs.2.2.M, hs.2.2.2.2.2.2.2, (hs.2.1.r h.2.2.2.1).1, (hs.2.1.r h.2.2.2.1).2⟩
theorem daysC {T P : Int} {n : Int} (hT : 0 ≤ T ∧ T ≤ 8) (hP : 0 ≤ P ∧ P ≤ 6) (hn : n ≤ 30) {Q : RV → Mem → Prop} (d : Nat) : ∀ (k : Nat) (x D : Int) (σ : Mem), 0 ≤ x → x + (k : Int) = n → D + (k : Int) ≤ 2000 → σ 15 1 = P → ClN T P D σ → (∀ τ, ChD P k σ τ → Q (rI (τ 38 0)) τ) → Ev (d + 5) mF_days 12 [vR 11, vI n, vI x] [] σ Q
  | 0, x, D, σ, h0, h1, hD, h15, hc, h => bF_days_12 ⟨⟨by omega, by omega⟩, ⟨by omega, by omega⟩, fun _ => h σ rfl, fun q => absurd q (by omega)⟩
  | k + 1, x, D, σ, h0, h1, hD, h15, hc, h => by
    refine bF_days_12 ⟨⟨by omega, by omega⟩, ⟨by omega, by omega⟩, fun q => absurd q (by omega), fun _ => keepC ⟨hc.2.2.1, hc.2.2.2⟩ (d + 2) (fun τ hs hk => ?_)⟩
    have e38 := hs.1 38 rfl
    refine endDayC37 (m := mOf (σ 38)) (T := T) (P := P) (D := D) (B := 47952) (by rw [e38]; exact rowS_mOf _) hc.1 (Int.le_refl _) hT.2 ⟨by rw [hs.1 15 rfl]; exact h15, hP⟩ (by omega) (by rw [e38]; exact hc.2.1) d (fun υ gs gd => ?_)
    have st : StepD P σ υ := ⟨(hs.mono (by decide) (by decide)).trans (gs.mono (by decide) (by decide)), by rw [gs.1 41 rfl, gs.1 42 rfl]; exact hk, by rw [← e38]; exact gd⟩
    exact daysC hT hP hn d k (x + 1) (D + 1) υ (by omega) (by omega) (by omega) (by rw [st.1.1 15 rfl]; exact h15) (hc.day hT hP st) (fun τ' ht => h τ' ⟨υ, st, ht⟩)
theorem RelN.day {T P : Int} {τ ω τ' ω' : Mem} (hT : 0 ≤ T ∧ T ≤ 8) (hP : 0 ≤ P ∧ P ≤ 6) (h : RelN T P τ ω) (hs : StepD P τ τ') (hk : KR (ω 64 45) (ω 90) (ω 81) (ω' 64 45) (ω' 90)) (hm : DayM P (ω 81) (ω' 81)) (hd : ω 81 72 + 1 ≤ 999) : RelN T P τ' ω' := by
  obtain ⟨q1, q2, q3, q4, q5, q6, q7⟩ := h
  have w := (q2.W.D (D' := ω 81 72) (Int.le_refl _)).day hT hP hm
  exact ⟨RowR.of (q1.S.day q2.n73 hs.2.2 hm) (q1.L.day hs.2.2 hm), RowV.of (w.D (by rw [hm.2.2.2.2.1]; exact hd)) (q2.L.day hm), q3.keep q1 q2 hs.2.1 hk, hs.2.2.2.2.2.2.2, hm.2.2.2.2.2.2, hs.2.1.2.2.2.2 q4 q6, hk.2.2.2 q7 q5⟩
theorem daysR {T P : Int} {n : Int} {ω0 : Mem} (hT : 0 ≤ T ∧ T ≤ 8) (hP : 0 ≤ P ∧ P ≤ 6) (hn : n ≤ 30) {Q : RV → Mem → Prop} (d : Nat) : ∀ (k : Nat) (x : Int) (σ τ ω : Mem), 0 ≤ x → x + (k : Int) = n → ω 81 72 + (k : Int) ≤ 999 → ω 64 38 = P → Sm ω0 ω rSl rJl → ChD P k σ τ → RelN T P σ ω → (∀ ω', Sm ω0 ω' rSl rJl → RelN T P τ ω' → Q (rI (ω' 81 72)) ω') → Ev (d + 3) mR_days 12 [vR 64, vI n, vI x] [] ω Q
  | 0, x, σ, τ, ω, h0, h1, hD, h38, hs, hc, hr, h => bR_days_12 ⟨⟨by omega, by omega⟩, ⟨by omega, by omega⟩, fun _ => by cases hc; exact h ω hs hr, fun q => absurd q (by omega)⟩
  | k + 1, x, σ, τ, ω, h0, h1, hD, h38, hs, hc, hr, h => by
    obtain ⟨υ, st, ht⟩ := hc
    have hr' := hr
    obtain ⟨q1, q2, q3, q4, q5, q6, q7⟩ := hr'
    refine bR_days_12 ⟨⟨by omega, by omega⟩, ⟨by omega, by omega⟩, fun q => absurd q (by omega), fun _ => keepR q3.1.2 (d + 1) (fun ω1 gs gk => ?_)⟩
    have e81 := gs.1 81 rfl
    refine endDayR (T := T) (P := P) (D := 999) (B := 47952) (by rw [e81]; exact q2.W) (Int.le_refl _) hT.2 ⟨by rw [gs.2 38 rfl]; exact h38, hP⟩ (by decide) (by rw [e81]; exact q5) d (fun ω2 ks km => ?_)
    rw [e81] at km
    have k45 : KR (ω 64 45) (ω 90) (ω 81) (ω2 64 45) (ω2 90) := by rw [ks.1 64 rfl, ks.1 90 rfl]; exact gk
    have sm : Sm ω ω2 rSl rJl := (gs.mono (by decide) (by decide)).trans (ks.mono (by decide) (by decide))
    exact daysR hT hP hn d k (x + 1) υ τ ω2 (by omega) (by omega) (by rw [km.2.2.2.2.1]; omega) (by rw [sm.2 38 rfl]; exact h38) (hs.trans sm) ht (hr.day hT hP st k45 km (by omega)) h
theorem c_days : ∀ (a : Int) (σ : Mem), Inv σ → rg a → Pair mF_days mR_days [aI a] σ := by
  intro n σ hI ha
  obtain ⟨⟨m1, m2, m3, m4⟩, ⟨n1, n2, n3, n4⟩, -⟩ := hI.1.2.1
  have hR := hI.1.2.2.1
  have hV := hI.1.2.2.2
  have h72 := hV.W.2.2.2.2.2.1
  have r1 := hR.1.1
  by_cases hx : 0 < σ 64 37 ∧ (1 ≤ n ∧ n ≤ 30) ∧ σ 81 72 + n ≤ 999
  · refine pair_seq (K := fun v τ => v = τ 38 0 ∧ ChD (σ 64 38) n.toNat σ τ) hI ?_ (fun v τ hv hs hk => ?_)
    · refine bF_days_in (d := 994) ⟨ha, hI.cOK, (by omega), fun _ => ?_, fun q => absurd (by omega) q⟩
      refine daysC n1 n2 (by omega) 994 n.toNat 0 (σ 81 72) σ (by decide) (by omega) (by omega) m2 (hI.relN.cl (Int.le_refl _)) (fun τ ht => ⟨_, rfl, ?_, ht.sm, rfl, ht⟩)
      -- the day is small
      have : ∀ (k : Nat) (D : Int) (σ' : Mem), ClN (σ 64 37) (σ 64 38) D σ' → D + (k : Int) ≤ 2000 → ∀ τ, ChD (σ 64 38) k σ' τ → rg (τ 38 0) := by
        intro k
        induction k with
        | zero => intro D σ' hc hD τ ht; cases ht; exact hc.2.1 0
        | succ k ih => intro D σ' hc hD τ ht; obtain ⟨υ, st, ht⟩ := ht; exact ih (D + 1) υ (hc.day n1 n2 st) (by omega) τ ht
      exact this n.toNat (σ 81 72) σ (hI.relN.cl (Int.le_refl _)) (by omega) τ ht
    · obtain ⟨rfl, ht⟩ := hk
      have e81 := hs.1 81 rfl
      have e64 := hs.1 64 rfl
      refine bR_days_in (d := 996) ⟨ha, by unfold mOK; rw [e64, e81]; exact hI.mOK, by rw [e81]; omega, fun _ => ?_, fun q => absurd (by rw [e64, e81]; omega) q⟩
      refine daysR n1 n2 (by omega) 996 n.toNat 0 σ τ τ (by decide) (by omega) (by rw [e81]; omega) (by rw [e64]) Sm.refl ht (hI.relN.cg rfl rfl rfl e81 (by rw [e64]) (hs.1 90 rfl)) (fun ω' gs gr => ⟨?_, gs, gr⟩)
      rw [gr.1.1.1]
  · refine pair_q (v := -1) hI (by decide) ?_ ?_
    · exact bF_days_in (d := 994) ⟨ha, hI.cOK, (by omega), fun q => absurd (by omega) hx, fun _ => ⟨rfl, rfl⟩⟩
    · exact bR_days_in (d := 996) ⟨ha, hI.mOK, (by omega), fun q => absurd (by omega) hx, fun _ => ⟨rfl, rfl⟩⟩
