/-! ===== KEPT BY A HABIT: DAY BY DAY ===== -/
/-- what is had on a day -/
def HC (σ : Mem) (o : Option (List Cla)) (hb p : Int) (c c1 : Int → Int) (v : Int) : Prop := (pk σ o hb (mO c) p = -1 → c1 = c ∧ v = 0) ∧ (pk σ o hb (mO c) p ≠ -1 → c1 = gcL c p (hvs σ o (mO c) p (pk σ o hb (mO c) p)) ∧ v = tot (hvs σ o (mO c) p (pk σ o hb (mO c) p)))
def ChH (σ : Mem) (o : Option (List Cla)) (hb p : Int) : Nat → (Int → Int) → Int → Prop
  | 0, c, v => (hb = 3 → v = (ordF (hvR σ o (mO c) p) (lvR σ (mO c) p (i_shl 1 (σ 64 37) - 1)) (σ 64 37).toNat 8 (mO c (48 + p))).1) ∧ (hb ≠ 3 → ∃ c1, HC σ o hb p c c1 v)
  | k + 1, c, v => ∃ c1 c2 v1 v2, HC σ o hb p c c1 v1 ∧ DayC (σ 64 38) c1 c2 ∧ ChH σ o hb p k c2 v2 ∧ v = v1 + v2
theorem dayJoyC {σ υ : Mem} (hM : MarkI σ) {o : Option (List Cla)} (hH : Held σ o) {D : Int} (hD : D ≤ 4000) (hs : Sm σ υ (40 :: scrSL) []) (h : KM σ D (υ 40) (mO (υ 40))) (d : Nat) {p hb : Int} (hp : 0 ≤ p ∧ p < σ 64 38) (hhb : 0 ≤ hb ∧ hb ≤ 3) {Q : RV → Mem → Prop} (hQ : ∀ τ v, HC σ o hb p (υ 40) (τ 40) v → (0 ≤ v ∧ v ≤ 7992) → KM σ D (τ 40) (mO (τ 40)) → Sm υ τ [28, 45, 46, 47, 48, 49, 40] [] → Q (rI v) τ) : Cl (d + 19) mF_joyOfDay [aR 11, aI p, aI hb] υ Q := by
  have n1 := hM.2.1.1
  have n2 := hM.2.1.2.1
  have sk : SmMk σ υ := SmMk.of hs (by decide) (by decide)
  have hMu := hM.sm hs (by decide) (by decide)
  have hHu := hH.sm hs (by decide) rfl
  refine bF_joyOfDay_in ⟨⟨by omega, by omega⟩, fun z => ?_, fun z => ?_⟩
  · refine pickC hMu hHu hD (KM_cg sk h) (d + 12) (p := p) (by rw [sk.2.2.1]; exact hp) (by omega) (fun τ1 s1 => ?_)
    rw [pk_cg sk]
    have e40 : τ1 40 = υ 40 := s1.1 40 rfl
    have sk1 : SmMk υ τ1 := SmMk.of s1 (by decide) (by decide)
    have sk2 : SmMk σ τ1 := ⟨⟨by rw [sk1.1.1, sk.1.1], by rw [sk1.1.2.1, sk.1.2.1], by rw [sk1.1.2.2.1, sk.1.2.2.1], by rw [sk1.1.2.2.2.1, sk.1.2.2.2.1], by rw [sk1.1.2.2.2.2.1, sk.1.2.2.2.2.1], by rw [sk1.1.2.2.2.2.2.1, sk.1.2.2.2.2.2.1], by rw [sk1.1.2.2.2.2.2.2.1, sk.1.2.2.2.2.2.2.1], by rw [sk1.1.2.2.2.2.2.2.2, sk.1.2.2.2.2.2.2.2]⟩, by rw [sk1.2.1, sk.2.1], by rw [sk1.2.2.1, sk.2.2.1], by rw [sk1.2.2.2.1, sk.2.2.2.1], by rw [sk1.2.2.2.2, sk.2.2.2.2]⟩
    rcases pk_r hM o hb (mO (υ 40)) p with e | ⟨e1, e2⟩
    · rw [e]
      refine ⟨by decide, fun y => absurd rfl y, fun _ => ?_⟩
      exact hQ τ1 0 ⟨fun _ => ⟨e40, rfl⟩, fun y => absurd e y⟩ (by decide) (by rw [e40]; exact h) (s1.mono (by decide) (by decide))
    · refine ⟨⟨by omega, by omega⟩, fun y => ?_, fun y => absurd y (by omega)⟩
      obtain ⟨hS, hW, h0, h2, hgc, hgm⟩ := h
      have hv := km_hv hM (o := o) hD 1 ⟨hS, hW, h0, h2, hgc, hgm⟩ (p := p) (x := pk σ o hb (mO (υ 40)) p) (by omega) e1 e2
      refine doHave39 (hMu.sm' s1 (by decide)) (hHu.sm s1 (by decide) rfl) (T := σ 64 37) (P := σ 64 38) (D := D) (B := 47952) (m := mO (υ 40)) (by rw [e40]; exact hS) hW (Int.le_refl _) sk2.2.1.symm hD h0 (by rw [e40]; exact h2) d (by rw [sk2.2.2.1]; exact hp) (by rw [sk2.2.1]; exact e1) e2 (fun τ2 s2 e => ?_)
      rw [hvs_cg sk2, e40] at e
      rw [hvs_cg sk2]
      obtain ⟨ok, l8⟩ := hvs_ok (o := o) hM hW rfl 1 h0 (p := p) (x := pk σ o hb (mO (υ 40)) p) (by omega) e1 e2
      have tr := tot_r ok
      refine hQ τ2 _ ⟨fun q => absurd q y, fun _ => ⟨e, rfl⟩⟩ ⟨by omega, by omega⟩ ?_ ((s1.mono (by decide) (by decide)).trans (s2.mono (by decide) (by decide)))
      rw [e]
      exact km_mO hv
  · refine hQ υ 0 ⟨fun _ => ⟨rfl, rfl⟩, fun y => ?_⟩ (by decide) h Sm.refl
    exact absurd (by unfold pk; rw [if_pos z]) y
theorem habC {σ : Mem} (hM : MarkI σ) {o : Option (List Cla)} (hH : Held σ o) (d : Nat) {p hb n : Int} (hp : 0 ≤ p ∧ p < σ 64 38) (hhb : 0 ≤ hb ∧ hb ≤ 3) (hn : 1 ≤ n ∧ n ≤ 30) {Q : RV → Mem → Prop} : ∀ (k : Nat) (i t0 D : Int) (υ : Mem), 1 ≤ i → i + (k : Int) = n → D + (k : Int) ≤ 4000 → Sm σ υ (40 :: scrSL) [] → KM σ D (υ 40) (mO (υ 40)) → (hb = 3 → t0 = 0) → (∀ τ v, ChH σ o hb p k (υ 40) v → (0 ≤ v ∧ v ≤ 7992 * 8 + 7992 * (k : Int)) → Sm σ τ (40 :: scrSL) [] → RG (τ 40) → Q (rI (t0 + v)) τ) → Ev (d + 20) mF_joyByHabit 20 [vR 11, vI p, vI hb, vI n, vI t0, vI i] [] υ Q
  | 0, i, t0, D, υ, i0, i1, hD, hs, h, ht, hQ => by
    have n1 := hM.2.1.1
    have n2 := hM.2.1.2.1
    have p2 := p2_le n1
    have sh := shl_T n1
    have sk : SmMk σ υ := SmMk.of hs (by decide) (by decide)
    have hMu := hM.sm hs (by decide) (by decide)
    have hHu := hH.sm hs (by decide) rfl
    refine bF_joyByHabit_20 ⟨⟨by omega, by omega⟩, ⟨by omega, by omega⟩, fun _ => ⟨⟨by omega, by omega⟩, fun z => ?_, fun z => ?_⟩, fun z => absurd z (by omega)⟩
    · obtain ⟨hS, hW, h0, h2, hgc, hgm⟩ := h
      have had0 := hW.1 (48 + p) (by omega) (by omega)
      have had1 := hW.2.1 p hp.1 (by omega)
      have e3 : υ 40 (3 + p * 4 + 3) = mO (υ 40) (48 + p) := Cor.eq hS (Cor.had (by omega))
      have e15 : υ 15 0 = σ 64 37 := by rw [hs.1 15 rfl]; exact hM.1.1
      have hWu : RowW (υ 64 37) (υ 64 38) D 47952 (mO (υ 40)) := by rw [sk.2.1, sk.2.2.1]; exact hW
      refine ⟨(by omega), (by omega), ?_⟩
      rw [e15, e3]
      refine lookS39 hMu hHu hS hWu rfl (by omega) (d + 14) (p := p) (by rw [sk.2.2.1]; exact hp) (k := 0) (by decide) (j := σ 64 37) (by omega) (fun τ1 s1 tb => ?_)
      rw [sk.2.1] at tb
      have g64 : τ1 64 = υ 64 := s1.1 64 rfl
      have f37 : τ1 64 37 = σ 64 37 := by rw [g64]; exact sk.2.1
      have hM1 := hMu.sm' s1 (by decide)
      refine heldBy39 hM1 (by rw [s1.1 40 rfl]; exact hS) hW (Int.le_refl _) (d + 16) (p := p) (by omega) ?_
      rw [f37]
      have sk1 : SmMk υ τ1 := SmMk.of s1 (by decide) (by decide)
      have hh := hdm_r (m := mO (υ 40)) (p := p) n1
      have t15 : τ1 15 0 = σ 64 37 := by rw [s1.1 15 rfl]; exact e15
      rw [t15]
      refine findOrdersC (σ := τ1) hM1 (o := o) (m := mO (υ 40)) (p := p) (th := i_shl 1 (σ 64 37) - 1) (by rw [f37]; exact ⟨had0, had1⟩) (by rw [f37]; omega) (fun τ2 s2 => by
        rw [f37, wjv_cg sk1, ← sk.2.1]
        exact Dl_of hMu hWu rfl (by omega) (p := p) (by rw [sk.2.2.1]; exact hp) (S := [28, 45, 46] ++ foS) ((s1.mono (by decide) (by decide)).trans (s2.mono (by decide) (by decide))) (by decide) (fun h x a1 a2 a3 a4 => by rw [s2.1 46 rfl]; rw [sk.2.1] at a2 a4; exact tb h x a1 a2 a3 a4)) (T := σ 64 37) f37.symm d (fun τ2 s2 t2 => ?_)
      have hvE : hvR τ1 o (mO (υ 40)) p = hvR σ o (mO (υ 40)) p := by
        unfold hvR
        rw [wjv_cg sk1, wjv_cg sk, f37, sk1.1.2.2.2.2.2.2.1, sk.1.2.2.2.2.2.2.1, sk1.1.2.2.2.2.2.2.2, sk.1.2.2.2.2.2.2.2, sk1.2.2.2.2, sk.2.2.2.2]
      have lvE : lvR τ1 (mO (υ 40)) p (i_shl 1 (σ 64 37) - 1) = lvR σ (mO (υ 40)) p (i_shl 1 (σ 64 37) - 1) := by unfold lvR; rw [f37]
      rw [hvE, lvE, f37] at t2
      have orr := ordF_r n1 (hok hM o (mO (υ 40)) p (i_shl 1 (σ 64 37) - 1)) 8 (mO (υ 40) (48 + p)) ⟨had0, had1⟩
      obtain ⟨y1, -, -⟩ := tbO_iff t2
      refine ⟨(by omega), (by omega), ?_⟩
      rw [y1]
      have sA : Sm σ τ2 (40 :: scrSL) [] := (hs.trans (s1.mono (by decide) (by decide))).trans (s2.mono (by decide) (by decide))
      have := hQ τ2 _ ⟨fun _ => rfl, fun q => absurd z q⟩ (by have := orr.1; omega) sA (by rw [s2.1 40 rfl, s1.1 40 rfl]; exact hgc)
      rw [ht z, Int.zero_add] at this
      exact this
    · refine dayJoyC hM hH (by omega) hs h d hp hhb (fun τ v hc hv hk s => hQ τ v ⟨fun q => absurd q z, fun _ => ⟨_, hc⟩⟩ ⟨by omega, by omega⟩ (hs.trans (s.mono (by decide) (by decide))) hk.2.2.2.2.1)
  | k + 1, i, t0, D, υ, i0, i1, hD, hs, h, ht, hQ => by
    have n1 := hM.2.1.1
    have n2 := hM.2.1.2.1
    refine bF_joyByHabit_20 ⟨⟨by omega, by omega⟩, ⟨by omega, by omega⟩, fun z => absurd z (by omega), fun _ => ?_⟩
    refine dayJoyC hM hH (by omega) hs h d hp hhb (fun τ v hc hv hk s => ?_)
    have hs2 : Sm σ τ (40 :: scrSL) [] := hs.trans (s.mono (by decide) (by decide))
    refine endDayC39 hk.1 hk.2.1 (Int.le_refl _) n1.2 ⟨by rw [hs2.1 15 rfl]; exact hM.1.2.1, n2⟩ (by omega) hk.2.2.2.2.1 (d + 15) (fun τ2 s2 gd => ?_)
    refine habC hM hH d hp hhb hn k (i + 1) (t0 + v) (D + 1) τ2 (by omega) (by omega) (by omega) (hs2.trans (s2.mono (by decide) (by decide))) (km_dayC hM hk gd) (fun z => by rw [ht z, (hc.1 (by unfold pk; rw [if_pos z])).2]; rfl) (fun τ3 v3 ch hv3 s3 g3 => ?_)
    have := hQ τ3 (v + v3) ⟨_, _, _, _, hc, gd, ch, rfl⟩ ⟨by omega, by omega⟩ s3 g3
    rw [← Int.add_assoc] at this
    exact this
/-- the reference goes the same days -/
theorem habR {σ : Mem} (hM : MarkI σ) {o : Option (List Cla)} (hH : Held σ o) (d : Nat) {p hb n b0 : Int} (hp : 0 ≤ p ∧ p < σ 64 38) (hhb : 0 ≤ hb ∧ hb ≤ 3) (hn : 1 ≤ n ∧ n ≤ 30) {Q : RV → Mem → Prop} : ∀ (k : Nat) (i D v : Int) (c : Int → Int) (u7 : Option AV) (ω : Mem), 0 ≤ i → i + (k : Int) + 1 = n → D + (k : Int) ≤ 3000 → ChH σ o hb p k c v → Sm σ ω (40 :: 81 :: scrSL) (43 :: scrSJ) → ω 64 43 = 1 → KM σ D c (ω 81) → (∀ ω' x5 u7, Sm ω ω' [64, 73, 74, 81, 92] [48, 49, 50] → RG (ω' 81) → ω' 81 (54 + p) + x5 = ω 81 (54 + p) + v → Ev (d + 36) mR_keptBy 21 [vR 64, vI p, vI hb, vI n, vI b0, vI x5, vI n, u7] [] ω' Q) → Ev (d + 36) mR_keptBy 21 [vR 64, vI p, vI hb, vI n, vI b0, vI 0, vI i, u7] [] ω Q := by
  have n1 := hM.2.1.1
  have n2 := hM.2.1.2.1
  have sh := shl_T n1
  have p2 := p2_le n1
  -- one day but for an order's
  have day : ∀ (i D v1 : Int) (c c1 : Int → Int) (u7 : Option AV) (ω : Mem) (Q : RV → Mem → Prop), 0 ≤ i → i < n → (hb = 3 → i ≠ n - 1) → D ≤ 3000 → HC σ o hb p c c1 v1 → Sm σ ω (40 :: 81 :: scrSL) (43 :: scrSJ) → ω 64 43 = 1 → KM σ D c (ω 81) → (∀ ω2 m1 u7, Sm ω ω2 [73, 74, 81] [] → KM σ D c1 m1 → DayM (σ 64 38) m1 (ω2 81) → m1 (54 + p) = ω 81 (54 + p) + v1 → Ev (d + 36) mR_keptBy 21 [vR 64, vI p, vI hb, vI n, vI b0, vI 0, vI (i + 1), u7] [] ω2 Q) → Ev (d + 36) mR_keptBy 21 [vR 64, vI p, vI hb, vI n, vI b0, vI 0, vI i, u7] [] ω Q := by
    intro i D v1 c c1 u7 ω Q i0 i1 hl hD hc s0 hq hk h
    have sk : SmMk σ ω := SmMk.of s0 (by decide) (by decide)
    have hMw := hM.sm s0 (by decide) (by decide)
    have hHw := hH.sm s0 (by decide) rfl
    have eq : ∀ i, 0 ≤ i → i < 74 → mO c i = ω 81 i := fun i a b => mO_eq hk.1 a b
    unfold HC at hc
    rw [pk_m (σ := σ) (o := o) (hb := hb) (p := p) hM (by omega) eq, hvs_lo hM (p := p) (by omega) eq] at hc
    have e38 : ω 64 38 = σ 64 38 := sk.2.2.1
    have e37 : ω 64 37 = σ 64 37 := sk.2.1
    -- the day's end
    have ed : ∀ ω1, Sm ω ω1 [73, 74, 81] [] → KM σ D c1 (ω1 81) → ω1 81 (54 + p) = ω 81 (54 + p) + v1 → ∀ u7, Cl (d + 35) mR_endDay [aR 64] ω1 (fun r3 τ4 => oV r3 (Ev (d + 36) mR_keptBy 21 [vR 64, vI p, vI hb, vI n, vI b0, vI 0, vI (i + 1), u7] [] τ4 Q)) := by
      intro ω1 s1 k1 hj u7
      refine endDayR k1.2.1 (Int.le_refl _) n1.2 ⟨by rw [s1.1 64 rfl]; exact e38, n2⟩ (by omega) k1.2.2.2.2.2 (d + 33) (fun ω2 s2 gd => ?_)
      exact h ω2 (ω1 81) u7 (s1.trans (s2.mono (by decide) (by decide))) k1 gd hj
    refine bR_keptBy_21 ⟨⟨by omega, by omega⟩, ⟨by omega, by omega⟩, fun z => absurd z (by omega), fun _ => ⟨⟨by omega, by omega⟩, fun z => ⟨⟨by omega, by omega⟩, fun y => ?_, fun y => absurd y (hl (by omega))⟩, fun z => ?_⟩⟩
    · have pn : pk σ o hb (ω 81) p = -1 := by unfold pk; rw [if_pos (show hb = 3 by omega)]
      obtain ⟨rfl, rfl⟩ := hc.1 pn
      exact ed ω Sm.refl hk (Int.add_zero _).symm _
    · have hWw : RowW (ω 64 37) (ω 64 38) D 47952 (ω 81) := by rw [e37, e38]; exact hk.2.1
      refine chosenR hMw hHw hWw (by omega) (d + 27) (p := p) (by rw [e38]; exact hp) (by omega) (fun ω1 s1 => ?_)
      rw [pk_cg sk]
      have o81 : ω1 81 = ω 81 := s1.1 81 rfl
      have o64 : ω1 64 = ω 64 := s1.1 64 rfl
      rcases pk_r hM o hb (ω 81) p with e | ⟨e1, e2⟩
      · rw [e]
        obtain ⟨rfl, rfl⟩ := hc.1 e
        exact ⟨by decide, fun _ => ed ω1 (s1.mono (by decide) (by decide)) (by rw [o81]; exact hk) (by rw [o81]; exact (Int.add_zero _).symm) _, fun y => absurd rfl y⟩
      · obtain ⟨rfl, rfl⟩ := hc.2 (by omega)
        refine ⟨⟨by omega, by omega⟩, fun y => absurd y (by omega), fun _ => ?_⟩
        have sk1 : SmMk σ ω1 := SmMk.of (s0.trans (s1.mono (by decide) (by decide))) (by decide) (by decide)
        rw [show d + 35 = (d + 14) + 21 from rfl]
        refine haveNowR (hMw.sm' s1 (by decide)) (hHw.sm s1 (by decide) rfl) (T := σ 64 37) (P := σ 64 38) (D := D) (B := 47952) (by rw [o81]; exact hk.2.1) (Int.le_refl _) sk1.2.1.symm (by omega) (by rw [o81]; exact hk.2.2.1) (by rw [o64, hq]; decide) (d + 14) (by rw [sk1.2.2.1]; exact hp) (by rw [sk1.2.1]; exact e1) (by rw [o81]; exact e2) (fun ω2 s2 e => ?_)
        rw [hvs_cg sk1, o81, o64, hq] at e
        rw [hvs_cg sk1, o81]
        obtain ⟨ok, l8⟩ := hvs_ok (o := o) hM hk.2.1 rfl 1 hk.2.2.1 (p := p) (x := pk σ o hb (ω 81) p) (by omega) e1 e2
        have tr := tot_r ok
        have hv := km_hv hM (o := o) (D := D) (by omega) 1 hk (p := p) (x := pk σ o hb (ω 81) p) (by omega) e1 e2
        refine ed ω2 ((s1.mono (by decide) (by decide)).trans s2) ?_ ?_ _
        · rw [e]; exact hv
        · rw [e]; exact gnLq_j (p := p) (by omega) n1.2 ok
  intro k
  induction k with
  | zero =>
    intro i D v c u7 ω i0 i1 hD hch s0 hq hk h
    have sk : SmMk σ ω := SmMk.of s0 (by decide) (by decide)
    have e38 : ω 64 38 = σ 64 38 := sk.2.2.1
    have e37 : ω 64 37 = σ 64 37 := sk.2.1
    have ei : i + 1 = n := by omega
    by_cases z : hb = 3
    · have hv := hch.1 z
      have hMw := hM.sm s0 (by decide) (by decide)
      have hHw := hH.sm s0 (by decide) rfl
      have eq : ∀ i, 0 ≤ i → i < 74 → mO c i = ω 81 i := fun i a b => mO_eq hk.1 a b
      obtain ⟨a1, a2⟩ := hvR_m (σ := σ) (o := o) (m := ω 81) (m' := mO c) (p := p) hM (i_shl 1 (σ 64 37) - 1) (by omega) eq
      rw [a1, a2, eq (48 + p) (by omega) (by omega)] at hv
      refine bR_keptBy_21 ⟨⟨by omega, by omega⟩, ⟨by omega, by omega⟩, fun z => absurd z (by omega), fun _ => ⟨⟨by omega, by omega⟩, fun _ => ⟨⟨by omega, by omega⟩, fun y => absurd (show i = n - 1 by omega) y, fun y => ?_⟩, fun y => absurd y (by omega)⟩⟩
      rw [e37]
      have hWw : RowW (ω 64 37) (ω 64 38) D 47952 (ω 81) := by rw [e37, e38]; exact hk.2.1
      refine layOrderR hMw hHw (Or.inr hq) hWw (by omega) hk.2.2.1 d (p := p) (th := i_shl 1 (σ 64 37) - 1) (by rw [e38]; exact hp) ⟨by omega, by omega⟩ (fun ω1 s1 r81 r43 tr => ?_)
      have hvE : hvR ω o (ω 81) p = hvR σ o (ω 81) p := by
        unfold hvR
        rw [wjv_cg sk, sk.2.1, sk.1.2.2.2.2.2.2.1, sk.1.2.2.2.2.2.2.2, sk.2.2.2.2]
      have lvE : lvR ω (ω 81) p (i_shl 1 (σ 64 37) - 1) = lvR σ (ω 81) p (i_shl 1 (σ 64 37) - 1) := by unfold lvR; rw [sk.2.1]
      rw [hvE, lvE, sk.2.1] at tr
      have x1 : ω1 64 50 = v := by rw [hv]; exact congrArg (fun z : O3 => z.1) tr
      rw [x1]
      have f38 : ω1 64 38 = σ 64 38 := by rw [s1.2 38 rfl]; exact e38
      refine endDayR (T := σ 64 37) (P := σ 64 38) (D := D) (B := 47952) (by rw [r81]; exact hk.2.1) (Int.le_refl _) n1.2 ⟨f38, n2⟩ (by omega) (by rw [r81]; exact hk.2.2.2.2.2) (d + 33) (fun ω2 s2 gd => ?_)
      rw [ei]
      refine h ω2 v _ (((s1.drop r43).mono (by decide) (by decide)).trans (s2.mono (by decide) (by decide))) gd.2.2.2.2.2.2 ?_
      rw [gd.2.2.1 (54 + p) (by omega) (by omega), r81]
    · obtain ⟨c1, hc⟩ := hch.2 z
      refine day i D v c c1 u7 ω Q i0 (by omega) (fun q => absurd q z) (by omega) hc s0 hq hk (fun ω2 m1 u7 s2 k1 gd hj => ?_)
      rw [ei]
      refine h ω2 0 u7 (s2.mono (by decide) (by decide)) gd.2.2.2.2.2.2 ?_
      rw [gd.2.2.1 (54 + p) (by omega) (by omega), hj, Int.add_zero]
  | succ k ih =>
    intro i D v c u7 ω i0 i1 hD hch s0 hq hk h
    obtain ⟨c1, c2, v1, v2, hc, gdc, ch, rfl⟩ := hch
    refine day i D v1 c c1 u7 ω Q i0 (by omega) (fun _ => by omega) (by omega) hc s0 hq hk (fun ω2 m1 u7 s2 k1 gd hj => ?_)
    refine ih (i + 1) (D + 1) v2 c2 u7 ω2 (by omega) (by omega) (by omega) ch (s0.trans (s2.mono (by decide) (by decide))) (by rw [s2.1 64 rfl]; exact hq) (km_day hM k1 gdc gd) (fun ω3 x5 u7 s3 g3 e3 => ?_)
    refine h ω3 x5 u7 ((s2.mono (by decide) (by decide)).trans s3) g3 ?_
    rw [e3, gd.2.2.1 (54 + p) (by omega) (by omega), hj]
    omega
