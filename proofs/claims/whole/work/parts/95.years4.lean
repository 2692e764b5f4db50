/-! ===== YEARS: DAYS BY DRAWS ===== -/
theorem lv_rel0 {σ : Mem} (hM : MarkI σ) (hT1 : 1 ≤ σ 64 37) {o : Option (List Cla)} {th p s : Int} {c m : Int → Int} (h : CM σ c m) (hp : 0 ≤ p ∧ p < σ 64 38) : CM σ (lvC σ o th p c s) (lvM σ o th p m s) ∧ lvM σ o th p m s 72 = m 72 := by
  have n1 := hM.2.1.1
  have n2 := hM.2.1.2.1
  have eq : ∀ i, 0 ≤ i → i < 74 → mO c i = m i := fun i i0 i1 => mO_eq h.1 i0 i1
  obtain ⟨k1, -, k3⟩ := lvK_cg (th := th) (s := s) (m := m) (m' := mO c) ⟨hT1, n1.2⟩ n2 hp eq
  have r := drV_r (s := s) hT1
  unfold lvC lvM
  rw [k1, k3]
  by_cases c0 : lvK (σ 64 37) (σ 64 38) th p m s = 0
  · rw [if_pos c0, if_pos c0]
    have can : 0 < m (8 * p + drV s (σ 64 37)) := by
      unfold lvK at c0
      by_cases z : 0 < m (8 * p + drV s (σ 64 37))
      · exact z
      · rw [if_neg z] at c0
        split at c0
        · cases c0
        · split at c0 <;> cases c0
    have sr := step_rel (q := 0) (k := 0) (a := p) (b := 0) (x := drV s (σ 64 37)) (v := 0) (o := o) hM h (Or.inl ⟨rfl, hp, r, can⟩) ⟨fun _ => rfl, fun z => absurd z (by decide), fun z => absurd z (by decide), fun z => absurd z (by decide)⟩ ⟨fun _ => rfl, fun z => absurd z (by decide), fun z => absurd z (by decide), fun z => absurd z (by decide)⟩
    obtain ⟨ok, -⟩ := hvs_ok (o := o) hM h.2.1 rfl 0 h.2.2.1 (p := p) (x := drV s (σ 64 37)) (by omega) r can
    exact ⟨sr.1, gnL_o h.2.2.1 (by omega) n1.2 (by decide) ok⟩
  · rw [if_neg c0, if_neg c0]
    by_cases c1 : lvK (σ 64 37) (σ 64 38) th p m s = 1
    · rw [if_pos c1, if_pos c1]; exact ⟨h, rfl⟩
    · rw [if_neg c1, if_neg c1]
      have hh : hol m p (drV s (σ 64 37)) (σ 64 38) ≠ -1 := by
        intro z
        unfold lvK at c0 c1
        by_cases a : 0 < m (8 * p + drV s (σ 64 37))
        · rw [if_pos a] at c0; exact c0 rfl
        · rw [if_neg a] at c1
          by_cases b : th ≤ drV (drS s) 100
          · rw [if_pos b] at c1; exact c1 rfl
          · rw [if_neg b, if_pos z] at c1; exact c1 rfl
      have fr := fs_r (p := fun q => decide (q ≠ p) && decide (0 < m (8 * q + drV s (σ 64 37)))) (σ 64 38).toNat
      change (hol m p (drV s (σ 64 37)) (σ 64 38) = -1 ∧ _) ∨ (0 ≤ hol m p (drV s (σ 64 37)) (σ 64 38) ∧ hol m p (drV s (σ 64 37)) (σ 64 38) < _ ∧ (decide (hol m p (drV s (σ 64 37)) (σ 64 38) ≠ p) && decide (0 < m (8 * hol m p (drV s (σ 64 37)) (σ 64 38) + drV s (σ 64 37)))) = true) at fr
      rcases fr with ⟨z, -⟩ | ⟨f1, f2, f3⟩
      · exact absurd z hh
      · rw [Bool.and_eq_true, decide_eq_true_iff, decide_eq_true_iff] at f3
        generalize hol m p (drV s (σ 64 37)) (σ 64 38) = b at *
        have sr := step_rel (q := 0) (k := 2) (a := p) (b := b) (x := drV s (σ 64 37)) (v := 0) (o := o) hM h (Or.inr (Or.inr (Or.inl ⟨rfl, hp, ⟨f1, by omega⟩, fun z => f3.1 z.symm, r, f3.2⟩))) ⟨fun z => absurd z (by decide), fun z => absurd z (by decide), fun _ => rfl, fun z => absurd z (by decide)⟩ ⟨fun z => absurd z (by decide), fun z => absurd z (by decide), fun _ => rfl, fun z => absurd z (by decide)⟩
        refine ⟨sr.1, ?_⟩
        unfold mvC
        rw [fu_ne (by omega), fu_ne (by omega)]
theorem lvC_cg {σ τ : Mem} (sk : SmMk σ τ) {o : Option (List Cla)} {th p s : Int} {c : Int → Int} : lvC τ o th p c s = lvC σ o th p c s := by
  unfold lvC; rw [sk.2.1, sk.2.2.1, hvs_cg sk]
theorem lvM_cg {σ τ : Mem} (sk : SmMk σ τ) {o : Option (List Cla)} {th p s : Int} {c : Int → Int} : lvM τ o th p c s = lvM σ o th p c s := by
  unfold lvM; rw [sk.2.1, sk.2.2.1, hvs_cg sk]
/-- persons from p on live by draws -/
def dyC (σ : Mem) (o : Option (List Cla)) (th : Int) : Nat → Int → (Int → Int) → Int → (Int → Int) × Int
  | 0, _, c, s => (c, s)
  | k + 1, p, c, s => dyC σ o th k (p + 1) (lvC σ o th p c s) (lvS (σ 64 37) p (mO c) s)
def dyM (σ : Mem) (o : Option (List Cla)) (th : Int) : Nat → Int → (Int → Int) → Int → (Int → Int) × Int
  | 0, _, m, s => (m, s)
  | k + 1, p, m, s => dyM σ o th k (p + 1) (lvM σ o th p m s) (lvS (σ 64 37) p m s)
theorem dy_rel {σ : Mem} (hM : MarkI σ) (hT1 : 1 ≤ σ 64 37) {o : Option (List Cla)} {th : Int} : ∀ (k : Nat) (p s : Int) (c m : Int → Int), 0 ≤ p → p + (k : Int) ≤ σ 64 38 → CM σ c m → LogR c m → LogW m → CM σ (dyC σ o th k p c s).1 (dyM σ o th k p m s).1 ∧ LogR (dyC σ o th k p c s).1 (dyM σ o th k p m s).1 ∧ LogW (dyM σ o th k p m s).1 ∧ (dyC σ o th k p c s).2 = (dyM σ o th k p m s).2 ∧ (dyM σ o th k p m s).1 72 = m 72
  | 0, p, s, c, m, p0, p1, h, hL, hW => ⟨h, hL, hW, rfl, rfl⟩
  | k + 1, p, s, c, m, p0, p1, h, hL, hW => by
    have n1 := hM.2.1.1
    have n2 := hM.2.1.2.1
    obtain ⟨a1, a2, a3⟩ := lv_rel (o := o) (th := th) (s := s) hM hT1 h hL hW (p := p) (by omega)
    have a4 := (lv_rel0 (o := o) (th := th) (s := s) hM hT1 h (p := p) (by omega)).2
    have e : lvS (σ 64 37) p (mO c) s = lvS (σ 64 37) p m s := (lvK_cg (th := th) ⟨hT1, n1.2⟩ n2 (by omega) (fun i i0 i1 => mO_eq h.1 i0 i1)).2.1
    obtain ⟨b1, b2, b3, b4, b5⟩ := dy_rel hM hT1 (o := o) (th := th) k (p + 1) (lvS (σ 64 37) p m s) _ _ (by omega) (by omega) a1 a2 a3
    have e2 : dyC σ o th (k + 1) p c s = dyC σ o th k (p + 1) (lvC σ o th p c s) (lvS (σ 64 37) p m s) := by
      show dyC σ o th k (p + 1) (lvC σ o th p c s) (lvS (σ 64 37) p (mO c) s) = _
      rw [e]
    rw [e2]
    exact ⟨b1, b2, b3, b4, b5.trans a4⟩
def cYl : List Nat := 11 :: cSl
def yrS : List Nat := [28, 45, 46, 47, 48, 49, 11, 38]
theorem yrPC {σ : Mem} (hM : MarkI σ) (hT1 : 1 ≤ σ 64 37) {o : Option (List Cla)} (hH : Held σ o) (hth : 0 ≤ σ 11 14 ∧ σ 11 14 ≤ 99) (d : Nat) {n x2 i : Int} {u3 : Option AV} {Q : RV → Mem → Prop} : ∀ (k : Nat) (p : Int) (υ : Mem), 0 ≤ p → p + (k : Int) = σ 64 38 → Sm σ υ cYl [] → (∀ j, j ≠ 15 → υ 11 j = σ 11 j) → CM σ (υ 38) (mO (υ 38)) →
    (∀ τ, Sm υ τ yrS [] → (∀ j, j ≠ 15 → τ 11 j = σ 11 j) → τ 38 = (dyC σ o (σ 11 14) k p (υ 38) (υ 11 15)).1 → τ 11 15 = (dyC σ o (σ 11 14) k p (υ 38) (υ 11 15)).2 → CM σ (τ 38) (mO (τ 38)) → τ 38 0 = υ 38 0 → Cl (d + 19) mSt_endDay [aR 37] τ (fun r4 τ5 => oV r4 (Ev (d + 20) mF_years 18 [vR 11, vI n, vJ x2, (kl u3), vI (i + 1), vI (σ 64 38)] [] τ5 Q))) →
    Ev (d + 20) mF_years 41 [vR 11, vI n, vJ x2, u3, vI i, vI p] [] υ Q
  | 0, p, υ, p0, p1, hs, hj, hc, h => by
    have e15 : υ 15 1 = σ 64 38 := by rw [hs.1 15 rfl]; exact hM.1.2.1
    have n2 := hM.2.1.2.1
    have g := h υ Sm.refl hj rfl rfl hc rfl
    rw [show σ 64 38 = p by omega] at g
    exact bF_years_41 ⟨⟨by omega, by omega⟩, by rw [e15]; exact ⟨by omega, by omega⟩, fun _ => g, fun z => absurd z (by rw [e15]; omega)⟩
  | k + 1, p, υ, p0, p1, hs, hj, hc, h => by
    have e15 : υ 15 1 = σ 64 38 := by rw [hs.1 15 rfl]; exact hM.1.2.1
    have n2 := hM.2.1.2.1
    have sk : SmMk σ υ := SmMk.of hs (by decide) (by decide)
    have hM2 : MarkI υ := hM.sm' hs (by decide)
    have e14 := hj 14 (by decide)
    refine bF_years_41 ⟨⟨by omega, by omega⟩, by rw [e15]; exact ⟨by omega, by omega⟩, fun z => absurd z (by rw [e15]; omega), fun _ => ?_⟩
    refine liveC hM2 (by rw [sk.2.1]; exact hT1) (hH.sm hs (by decide) rfl) (CM_cg sk hc) (by rw [e14]; exact hth) d (p := p) (by rw [sk.2.2.1]; omega) (fun τ s j2 e1 e2 => ?_)
    rw [sk.2.1] at e1
    rw [lvC_cg sk, e14] at e2
    have hs2 : Sm σ τ cYl [] := hs.trans (s.mono (by decide) (by decide))
    obtain ⟨r1, r2⟩ := lv_rel0 (o := o) (th := σ 11 14) (s := υ 11 15) hM hT1 hc (p := p) (by omega)
    rw [← e2] at r1
    have d0 : τ 38 0 = υ 38 0 := by
      have a := r1.1.1.1; have b := hc.1.1.1
      omega
    refine yrPC hM hT1 hH hth d k (p + 1) τ (by omega) (by omega) hs2 (fun j hj' => by rw [j2 j hj', hj j hj']) r1.mO (fun τ' s' j3 f1 f2 f3 f4 => ?_)
    rw [e2, e1] at f1 f2
    exact h τ' (Sm.trans (show Sm υ τ yrS [] from s) s') j3 f1 f2 f3 (by rw [f4, d0])
/-- one day of the class's -/
def StepY (σ : Mem) (o : Option (List Cla)) (υ τ : Mem) : Prop := Sm υ τ cYl [] ∧ KC (υ 41) (υ 42) (υ 38) (τ 41) (τ 42) ∧ τ 11 15 = (dyC σ o (σ 11 14) (σ 64 38).toNat 0 (υ 38) (υ 11 15)).2 ∧ DayC (σ 64 38) (dyC σ o (σ 11 14) (σ 64 38).toNat 0 (υ 38) (υ 11 15)).1 (τ 38)
def ChY (σ : Mem) (o : Option (List Cla)) : Nat → Mem → Mem → Prop
  | 0, υ, τ => τ = υ
  | k + 1, υ, τ => ∃ ζ, StepY σ o υ ζ ∧ ChY σ o k ζ τ
theorem yrC {σ : Mem} (hM : MarkI σ) (hT1 : 1 ≤ σ 64 37) {o : Option (List Cla)} (hH : Held σ o) (hth : 0 ≤ σ 11 14 ∧ σ 11 14 ≤ 99) (d : Nat) {n x2 : Int} (hn : n ≤ 30) {Q : RV → Mem → Prop} : ∀ (k : Nat) (i : Int) (u3 u5 : Option AV) (υ : Mem), 0 ≤ i → i + (k : Int) = n → υ 38 0 + (k : Int) ≤ 999 → Sm σ υ cYl [] → (∀ j, j ≠ 15 → υ 11 j = σ 11 j) → CM σ (υ 38) (mO (υ 38)) → ((0 ≤ υ 41 1 ∧ υ 41 1 < 40) ∧ (0 ≤ υ 41 2 ∧ υ 41 2 ≤ 40)) → (∀ τ, ChY σ o k υ τ → Sm σ τ cYl [] → (∀ j, j ≠ 15 → τ 11 j = σ 11 j) → rg (τ 38 0) → Q (rI (τ 38 0)) τ) → Ev (d + 20) mF_years 18 [vR 11, vI n, vJ x2, u3, vI i, u5] [] υ Q
  | 0, i, u3, u5, υ, i0, i1, hd, hs, hj, hc, hr, h => bF_years_18 ⟨⟨by omega, by omega⟩, ⟨by omega, by omega⟩, fun _ => h υ rfl hs hj (hc.2.2.2.2.1 0), fun z => absurd z (by omega)⟩
  | k + 1, i, u3, u5, υ, i0, i1, hd, hs, hj, hc, hr, h => by
    have n1 := hM.2.1.1
    have n2 := hM.2.1.2.1
    refine bF_years_18 ⟨⟨by omega, by omega⟩, ⟨by omega, by omega⟩, fun z => absurd z (by omega), fun _ => keepC hr (d + 17) (fun τ gs gk => ?_)⟩
    have e38 := gs.1 38 rfl
    have e11 := gs.1 11 rfl
    have s2 : Sm σ τ cYl [] := hs.trans (gs.mono (by decide) (by decide))
    refine yrPC hM hT1 hH hth d (σ 64 38).toNat 0 τ (by decide) (by omega) s2 (fun j hj' => by rw [e11]; exact hj j hj') (by rw [e38]; exact hc) (fun ζ s3 j3 f1 f2 f3 f4 => ?_)
    rw [e38, e11] at f1 f2
    rw [e38] at f4
    have s4 : Sm σ ζ cYl [] := s2.trans (s3.mono (by decide) (by decide))
    have sk : SmMk σ ζ := SmMk.of s4 (by decide) (by decide)
    refine endDayC37 (m := mO (ζ 38)) (T := σ 64 37) (P := σ 64 38) (D := 999) (B := 47952) f3.1 f3.2.1 (Int.le_refl _) n1.2 ⟨by rw [s4.1 15 rfl]; exact hM.1.2.1, n2⟩ (by decide) f3.2.2.2.2.1 (d + 15) (fun ρ gs2 gd => ?_)
    have s5 : Sm σ ρ cYl [] := s4.trans (gs2.mono (by decide) (by decide))
    have m72 : mO (ζ 38) 72 = ζ 38 0 := by have := f3.1.1.1; omega
    have rel := stepC_ok (o := o) (k := 3) (a := 0) (b := 0) (x := 0) (v := 0) hM f3 (Or.inr (Or.inr (Or.inr ⟨rfl, (by omega)⟩))) (c' := ρ 38) ⟨fun z => absurd z (by decide), fun z => absurd z (by decide), fun z => absurd z (by decide), fun _ => gd⟩
    have d1 : ρ 38 0 = ζ 38 0 + 1 := gd.2.2.2.1
    have j4 : ∀ j, j ≠ 15 → ρ 11 j = σ 11 j := fun j hj' => by rw [gs2.1 11 rfl]; exact j3 j hj'
    have kc : KC (υ 41) (υ 42) (υ 38) (ρ 41) (ρ 42) := by rw [gs2.1 41 rfl, gs2.1 42 rfl, s3.1 41 rfl, s3.1 42 rfl]; exact gk
    have st : StepY σ o υ ρ := ⟨((gs.mono (by decide) (by decide)).trans (s3.mono (by decide) (by decide))).trans (gs2.mono (by decide) (by decide)), kc, by rw [gs2.1 11 rfl]; exact f2, by rw [← f1]; exact gd⟩
    exact yrC hM hT1 hH hth d hn k (i + 1) _ _ ρ (by omega) (by omega) (by omega) s5 j4 rel (kc.r hr.2.1) (fun τ' ch => h τ' ⟨ρ, st, ch⟩)
theorem yrPR {σ : Mem} (hM : MarkI σ) (hT1 : 1 ≤ σ 64 37) {o : Option (List Cla)} (hH : Held σ o) (q0 : σ 64 43 = 0) (hth : 0 ≤ σ 64 41 ∧ σ 64 41 ≤ 99) (d : Nat) {n x2 i : Int} {u3 : Option AV} {Q : RV → Mem → Prop} : ∀ (k : Nat) (p : Int) (c : Int → Int) (ω : Mem), 0 ≤ p → p + (k : Int) = σ 64 38 → Sm σ ω (rSl ++ cYl) rJl → CM σ c (ω 81) → LogR c (ω 81) → LogW (ω 81) →
    (∀ τ, Sm ω τ [73, 74, 81, 64] [61] → τ 81 = (dyM σ o (σ 64 41) k p (ω 81) (ω 64 61)).1 → τ 64 61 = (dyM σ o (σ 64 41) k p (ω 81) (ω 64 61)).2 → Cl (d + 22) mR_endDay [aR 64] τ (fun r4 τ5 => oV r4 (Ev (d + 23) mR_years 18 [vR 64, vI n, vJ x2, (kl u3), vI (i + 1), vI (σ 64 38)] [] τ5 Q))) →
    Ev (d + 23) mR_years 31 [vR 64, vI n, vJ x2, u3, vI i, vI p] [] ω Q
  | 0, p, c, ω, p0, p1, hs, hc, hL, hLW, h => by
    have e38 : ω 64 38 = σ 64 38 := hs.2 38 rfl
    have n2 := hM.2.1.2.1
    have g := h ω Sm.refl rfl rfl
    rw [show σ 64 38 = p by omega] at g
    exact bR_years_31 ⟨⟨by omega, by omega⟩, by rw [e38]; exact ⟨by omega, by omega⟩, fun _ => g, fun z => absurd z (by rw [e38]; omega)⟩
  | k + 1, p, c, ω, p0, p1, hs, hc, hL, hLW, h => by
    have e38 : ω 64 38 = σ 64 38 := hs.2 38 rfl
    have n2 := hM.2.1.2.1
    have sk : SmMk σ ω := SmMk.of hs (by decide) (by decide)
    have hM2 : MarkI ω := hM.sm hs (by decide) (by decide)
    have e41 : ω 64 41 = σ 64 41 := hs.2 41 rfl
    have cm := CM_cg sk hc
    refine bR_years_31 ⟨⟨by omega, by omega⟩, by rw [e38]; exact ⟨by omega, by omega⟩, fun z => absurd z (by rw [e38]; omega), fun _ => ?_⟩
    refine luckyR hM2 (by rw [sk.2.1]; exact hT1) (hH.sm hs (by decide) rfl) cm.2.1 cm.2.2.1 (by rw [hs.2 43 rfl]; exact q0) (by rw [e41]; exact hth) d (p := p) (by rw [e38]; omega) (fun τ s e1 e2 => ?_)
    rw [sk.2.1] at e1
    rw [lvM_cg sk, e41] at e2
    have hs2 : Sm σ τ (rSl ++ cYl) rJl := hs.trans (s.mono (by decide) (by decide))
    obtain ⟨r1, r2, r3⟩ := lv_rel (o := o) (th := σ 64 41) (s := ω 64 61) hM hT1 hc hL hLW (p := p) (by omega)
    rw [← e2] at r1 r2 r3
    refine yrPR hM hT1 hH q0 hth d k (p + 1) _ τ (by omega) (by omega) hs2 r1 r2 r3 (fun τ' s' f1 f2 => ?_)
    rw [e2, e1] at f1 f2
    exact h τ' (s.trans s') f1 f2
theorem RelN.yr {σ : Mem} (hM : MarkI σ) (hT1 : 1 ≤ σ 64 37) (hth : σ 11 14 = σ 64 41) {o : Option (List Cla)} {υ ω τ ω' : Mem} (h : RelN (σ 64 37) (σ 64 38) υ ω) (hx : υ 11 15 = ω 64 61) (hd : ω 81 72 < 999) (hs : StepY σ o υ τ) (hk : KR (ω 64 45) (ω 90) (ω 81) (ω' 64 45) (ω' 90)) (hm : DayM (σ 64 38) (dyM σ o (σ 64 41) (σ 64 38).toNat 0 (ω 81) (ω 64 61)).1 (ω' 81)) (hy : ω' 64 61 = (dyM σ o (σ 64 41) (σ 64 38).toNat 0 (ω 81) (ω 64 61)).2) : RelN (σ 64 37) (σ 64 38) τ ω' ∧ τ 11 15 = ω' 64 61 ∧ ω' 81 72 = ω 81 72 + 1 := by
  have n2 := hM.2.1.2.1
  have cm := h.cm
  obtain ⟨q1, q2, q3, q4, q5, q6, q7⟩ := h
  obtain ⟨s1, s2, s3, s4⟩ := hs
  rw [hth, hx] at s3 s4
  obtain ⟨b1, b2, b3, b4, b5⟩ := dy_rel hM hT1 (o := o) (th := σ 64 41) (σ 64 38).toNat 0 (ω 64 61) _ _ (by decide) (by omega) cm q1.L q2.L
  generalize (dyC σ o (σ 64 41) (σ 64 38).toNat 0 (υ 38) (ω 64 61)) = C at *
  generalize (dyM σ o (σ 64 41) (σ 64 38).toNat 0 (ω 81) (ω 64 61)) = M at *
  obtain ⟨⟨a1, a2, a3, a4, a5, a6⟩, b⟩ := step_rel (q := 0) (o := o) (k := 3) (a := 0) (b := 0) (x := 0) (v := 0) hM b1 (Or.inr (Or.inr (Or.inr ⟨rfl, (by omega)⟩))) (c' := τ 38) (m' := ω' 81) ⟨fun z => absurd z (by decide), fun z => absurd z (by decide), fun z => absurd z (by decide), fun _ => s4⟩ ⟨fun z => absurd z (by decide), fun z => absurd z (by decide), fun z => absurd z (by decide), fun _ => hm⟩
  obtain ⟨l1, l2⟩ := b rfl b2 b3
  exact ⟨⟨RowR.of a1 l1, RowV.of a2 l2, q3.keep q1 q2 s2 hk, a5, a6, s2.2.2.2.2 q4 q6, hk.2.2.2 q7 q5⟩, by rw [s3, hy, b4], by rw [hm.2.2.2.2.1, b5]⟩
theorem yrR {σ : Mem} (hM : MarkI σ) (hT1 : 1 ≤ σ 64 37) {o : Option (List Cla)} (hH : Held σ o) (q0 : σ 64 43 = 0) (hth : 0 ≤ σ 64 41 ∧ σ 64 41 ≤ 99) (h14 : σ 11 14 = σ 64 41) (d : Nat) {n x2 : Int} (hn : n ≤ 30) {τ0 : Mem} (hτ : Sm σ τ0 cYl []) {Q : RV → Mem → Prop} : ∀ (k : Nat) (i : Int) (u3 u5 : Option AV) (υ τ ω : Mem), 0 ≤ i → i + (k : Int) = n → ω 81 72 + (k : Int) ≤ 999 → ChY σ o k υ τ → Sm τ0 ω rSl rJl → RelN (σ 64 37) (σ 64 38) υ ω → υ 11 15 = ω 64 61 → (∀ ω', Sm τ0 ω' rSl rJl → RelN (σ 64 37) (σ 64 38) τ ω' → Q (rI (ω' 81 72)) ω') → Ev (d + 23) mR_years 18 [vR 64, vI n, vJ x2, u3, vI i, u5] [] ω Q
  | 0, i, u3, u5, υ, τ, ω, i0, i1, hd, hch, hs, hr, hx, h => bR_years_18 ⟨⟨by omega, by omega⟩, ⟨by omega, by omega⟩, fun _ => by cases hch; exact h ω hs hr, fun z => absurd z (by omega)⟩
  | k + 1, i, u3, u5, υ, τ, ω, i0, i1, hd, hch, hs, hr, hx, h => by
    obtain ⟨ζ, st, ch⟩ := hch
    have n1 := hM.2.1.1
    have n2 := hM.2.1.2.1
    have hr' := hr
    obtain ⟨q1, q2, q3, q4, q5, q6, q7⟩ := hr'
    have cm := hr.cm
    have s0 : Sm σ ω (rSl ++ cYl) rJl := (hτ.mono (by decide) (by decide)).trans (hs.mono (by decide) (by decide))
    refine bR_years_18 ⟨⟨by omega, by omega⟩, ⟨by omega, by omega⟩, fun z => absurd z (by omega), fun _ => keepR q3.1.2 (d + 21) (fun ω1 gs gk => ?_)⟩
    have e81 := gs.1 81 rfl
    have e61 := gs.2 61 rfl
    have s1 : Sm σ ω1 (rSl ++ cYl) rJl := s0.trans (gs.mono (by decide) (by decide))
    refine yrPR hM hT1 hH q0 hth d (σ 64 38).toNat 0 (υ 38) ω1 (by decide) (by omega) s1 (by rw [e81]; exact cm) (by rw [e81]; exact q1.L) (by rw [e81]; exact q2.L) (fun ω2 s2 f1 f2 => ?_)
    rw [e81, e61] at f1 f2
    obtain ⟨b1, b2, b3, b4, b5⟩ := dy_rel hM hT1 (o := o) (th := σ 64 41) (σ 64 38).toNat 0 (ω 64 61) _ _ (by decide) (by omega) cm q1.L q2.L
    rw [← f1] at b1
    have s3 : Sm σ ω2 (rSl ++ cYl) rJl := s1.trans (s2.mono (by decide) (by decide))
    refine endDayR (T := σ 64 37) (P := σ 64 38) (D := 999) (B := 47952) b1.2.1 (Int.le_refl _) n1.2 ⟨s3.2 38 rfl, n2⟩ (by decide) b1.2.2.2.2.2 (d + 20) (fun ω3 s4 gd => ?_)
    rw [f1] at gd
    have kr : KR (ω 64 45) (ω 90) (ω 81) (ω3 64 45) (ω3 90) := by rw [s4.1 64 rfl, s4.1 90 rfl, s2.2 45 rfl, s2.1 90 rfl]; exact gk
    obtain ⟨r1, r2, r3⟩ := hr.yr hM hT1 h14 hx (by omega) st kr gd (by rw [s4.1 64 rfl]; exact f2)
    exact yrR hM hT1 hH q0 hth h14 d hn hτ k (i + 1) _ _ ζ τ ω3 (by omega) (by omega) (by omega) ch (hs.trans (((gs.mono (by decide) (by decide)).trans (s2.mono (by decide) (by decide))).trans (s4.mono (by decide) (by decide)))) r1 r2 h
theorem pair_yr {F R : Nat} {as : List AV} {σ : Mem} {K : Int → Mem → Prop} (hI : Inv σ)
    (hF : Cl 999 F (aR 11 :: as) σ (fun r τ => ∃ v, r = rI v ∧ rg v ∧ Sm σ τ cYl [] ∧ (∀ j, j ≠ 15 → τ 11 j = σ 11 j) ∧ K v τ))
    (hRf : ∀ v τ, rg v → Sm σ τ cYl [] → K v τ → Cl 999 R (aR 64 :: as) τ (fun r ω => r = rI v ∧ Sm τ ω rSl rJl ∧ RelN (σ 64 37) (σ 64 38) τ ω)) : Pair F R as σ := by
  obtain ⟨-, -, -, -, C5, C6⟩ := hI.2.1.2.2.2
  refine Cl.mono hF (fun r τ h => ?_)
  obtain ⟨v, rfl, hv, hs, hj, hk⟩ := h
  refine ⟨⟨hs.1 0 rfl, hs.1 1 rfl⟩, Cl.mono (hRf v τ hv hs hk) (fun r ω g => ?_)⟩
  obtain ⟨rfl, gs, q1, q2, q3, q4, q5, q6, q7⟩ := g
  have as_ : Sm σ ω actL actJ := (hs.mono (by decide) (by decide)).trans (gs.mono (by decide) (by decide))
  refine ⟨⟨rfl, hv⟩, ⟨by rw [gs.1 0 rfl, hs.1 0 rfl], by rw [gs.1 1 rfl, hs.1 1 rfl]⟩, hI.act as_ (by rw [gs.1 0 rfl, hs.1 0 rfl]) (by rw [gs.1 11 rfl, hj 14 (by decide)]) (by rw [gs.1 12 rfl, hs.1 12 rfl]) (by rw [gs.1 38 rfl]; exact q1) q2 ?_ (hI.2.1.2.1.cg (by rw [gs.1 11 rfl, hj 13 (by decide)]) (by rw [gs.2 63 rfl, hs.1 64 rfl]) (by rw [gs.1 43 rfl, hs.1 43 rfl]) (by rw [gs.1 99 rfl, hs.1 99 rfl]) (by rw [gs.2 37 rfl, hs.1 64 rfl]) (by rw [gs.2 38 rfl, hs.1 64 rfl])) ⟨?_, ?_, ?_, ?_, ?_, ?_⟩⟩
  · refine pastI_iff.mpr ?_
    rw [gs.2 37 rfl, gs.2 38 rfl, hs.1 64 rfl, gs.1 41 rfl, gs.1 42 rfl]
    exact q3
  · rw [gs.1 38 rfl]; exact q4
  · exact q5
  · rw [gs.1 42 rfl]; exact q6
  · exact q7
  · rw [gs.1 43 rfl, hs.1 43 rfl]; exact C5
  · rw [gs.1 99 rfl, hs.1 99 rfl]; exact C6
theorem c_years : ∀ (a b : Int) (σ : Mem), Inv σ → rg a → rgL b → Pair mF_years mR_years [aI a, aJ b] σ := by
  intro n x2 σ hI ha hb
  have hM := hI.1.2.1
  obtain ⟨o, hH⟩ := hI.heldO
  obtain ⟨⟨m1, m2, m3, m4⟩, ⟨n1, n2, n3, n4⟩, -⟩ := hI.1.2.1
  have q0 := hI.2.2.2.2.2.1
  obtain ⟨t1, t2, t3⟩ := hI.2.2.2.2.1
  have cm : CM σ (σ 38) (σ 81) := hI.relN.cm
  obtain ⟨⟨r1, r2, r3⟩, r4, -⟩ := hI.2.1.1
  have e0 := cm.1.1.1
  have f72 := cm.2.1.2.2.2.2.2.1
  by_cases hx : 0 < σ 64 37 ∧ (1 ≤ n ∧ n ≤ 30) ∧ σ 81 72 + n ≤ 999
  · obtain ⟨x1, x3, x4⟩ := hx
    refine pair_yr (K := fun v τ => v = τ 38 0 ∧ ChY σ o n.toNat (ups σ 11 15 x2) τ) hI ?_ (fun v τ hv hs hk => ?_)
    · refine bF_years_in (d := 979) ⟨ha, hI.cOK, (by omega), fun _ => ?_, fun z => absurd (by omega) z⟩
      have sm0 : Sm σ (ups σ 11 15 x2) cYl [] := Sm.refl.ups rfl (Or.inl (by decide))
      exact yrC hM x1 hH (by omega) 979 x3.2 n.toNat 0 vU vU (ups σ 11 15 x2) (by decide) (by omega) (by rw [ups_ne (by decide)]; omega) sm0 (fun j hj => ups_fn hj) (by rw [ups_ne (by decide)]; exact cm.mO) (by rw [ups_ne (by decide)]; exact ⟨by omega, by omega⟩) (fun τ ch s j r => ⟨_, rfl, r, s, j, rfl, ch⟩)
    · obtain ⟨rfl, ch⟩ := hk
      have e81 := hs.1 81 rfl
      have e64 := hs.1 64 rfl
      refine bR_years_in (d := 976) ⟨ha, by unfold mOK; rw [e64, e81]; exact hI.mOK, by rw [e81]; omega, fun _ => ?_, fun z => absurd (by rw [e64, e81]; omega) z⟩
      have sm1 : Sm τ (ups τ 64 61 x2) rSl rJl := Sm.refl.ups rfl (Or.inr rfl)
      refine yrR hM x1 hH q0 ⟨t2, t3⟩ t1 976 x3.2 hs n.toNat 0 vU vU (ups σ 11 15 x2) τ (ups τ 64 61 x2) (by decide) (by omega) (by rw [ups_ne (by decide), e81]; omega) ch sm1 ?_ (by rw [ups_hit, ups_hit]) (fun ω' gs gr => ⟨?_, gs, gr⟩)
      · exact hI.relN.cg (ups_ne (by decide)) (ups_ne (by decide)) (ups_ne (by decide)) (by rw [ups_ne (by decide), e81]) (by rw [ups_fn (by decide), e64]) (by rw [ups_ne (by decide)]; exact hs.1 90 rfl)
      · rw [gr.1.1.1]
  · refine pair_q (v := -1) hI (by decide) ?_ ?_
    · exact bF_years_in (d := 979) ⟨ha, hI.cOK, (by omega), fun z => absurd (by omega) hx, fun _ => ⟨rfl, rfl⟩⟩
    · exact bR_years_in (d := 976) ⟨ha, hI.mOK, (by omega), fun z => absurd (by omega) hx, fun _ => ⟨rfl, rfl⟩⟩
