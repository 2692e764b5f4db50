/-! ===== CASE awaits ===== -/
/-- parts left, the most, and when, after so many days -/
def awS (ch : Int) (f : Int → Int) : Nat → Int × Int × Int
  | 0 => (1000000000, -1, 0)
  | n + 1 => if (awS ch f n).2.1 < Int.tdiv ((awS ch f n).1 * f (Int.ofNat n)) 1000000000 then ((awS ch f n).1 - Int.tdiv ((awS ch f n).1 * ch) 100, Int.tdiv ((awS ch f n).1 * f (Int.ofNat n)) 1000000000, Int.ofNat n) else ((awS ch f n).1 - Int.tdiv ((awS ch f n).1 * ch) 100, (awS ch f n).2.1, (awS ch f n).2.2)
theorem awS_S {ch : Int} {f : Int → Int} {i : Int} (h : 0 ≤ i) : awS ch f (i + 1).toNat = if (awS ch f i.toNat).2.1 < Int.tdiv ((awS ch f i.toNat).1 * f i) 1000000000 then ((awS ch f i.toNat).1 - Int.tdiv ((awS ch f i.toNat).1 * ch) 100, Int.tdiv ((awS ch f i.toNat).1 * f i) 1000000000, i) else ((awS ch f i.toNat).1 - Int.tdiv ((awS ch f i.toNat).1 * ch) 100, (awS ch f i.toNat).2.1, (awS ch f i.toNat).2.2) := by
  rw [show (i + 1).toNat = i.toNat + 1 by omega]
  show (if (awS ch f i.toNat).2.1 < Int.tdiv ((awS ch f i.toNat).1 * f (Int.ofNat i.toNat)) 1000000000 then ((awS ch f i.toNat).1 - Int.tdiv ((awS ch f i.toNat).1 * ch) 100, Int.tdiv ((awS ch f i.toNat).1 * f (Int.ofNat i.toNat)) 1000000000, Int.ofNat i.toNat) else ((awS ch f i.toNat).1 - Int.tdiv ((awS ch f i.toNat).1 * ch) 100, (awS ch f i.toNat).2.1, (awS ch f i.toNat).2.2)) = _
  rw [show Int.ofNat i.toNat = i from Int.toNat_of_nonneg h]
theorem aw_v {P g : Int} (hP : 0 ≤ P ∧ P ≤ 1000000000) (hg : 0 ≤ g ∧ g ≤ 999) : (0 ≤ P * g ∧ P * g ≤ 999000000000) ∧ 0 ≤ Int.tdiv (P * g) 1000000000 ∧ Int.tdiv (P * g) 1000000000 ≤ 999 := by
  have := mul_b (a := P) (b := g) (A := 1000000000) (B := 999) hP hg
  rw [Int.tdiv_eq_ediv_of_nonneg this.1]
  omega
theorem aw_p {P ch : Int} (hP : 0 ≤ P ∧ P ≤ 1000000000) (hc : 0 ≤ ch ∧ ch ≤ 100) : (0 ≤ P * ch ∧ P * ch ≤ 100000000000) ∧ 0 ≤ P - Int.tdiv (P * ch) 100 ∧ P - Int.tdiv (P * ch) 100 ≤ 1000000000 := by
  have a := mul_b (a := P) (b := ch) (A := 1000000000) (B := 100) hP hc
  have b : P * ch ≤ P * 100 := Int.mul_le_mul_of_nonneg_left hc.2 hP.1
  rw [Int.tdiv_eq_ediv_of_nonneg a.1]
  omega
theorem awS_r {ch : Int} {f : Int → Int} (hc : 0 ≤ ch ∧ ch ≤ 100) (hf : ∀ i, 0 ≤ f i ∧ f i ≤ 999) : ∀ n : Nat, (0 ≤ (awS ch f n).1 ∧ (awS ch f n).1 ≤ 1000000000) ∧ (-1 ≤ (awS ch f n).2.1 ∧ (awS ch f n).2.1 ≤ 999) ∧ (0 ≤ (awS ch f n).2.2 ∧ (awS ch f n).2.2 ≤ (n : Int))
  | 0 => by show (0 ≤ (1000000000 : Int) ∧ (1000000000 : Int) ≤ 1000000000) ∧ (-1 ≤ (-1 : Int) ∧ (-1 : Int) ≤ 999) ∧ (0 ≤ (0 : Int) ∧ (0 : Int) ≤ ((0 : Nat) : Int)); decide
  | n + 1 => by
    have ih := awS_r hc hf n
    have a := aw_v ih.1 (hf (Int.ofNat n))
    have b := aw_p ih.1 hc
    unfold awS
    split
    · refine ⟨b.2, ?_, ?_⟩
      · show -1 ≤ Int.tdiv ((awS ch f n).1 * f (Int.ofNat n)) 1000000000 ∧ Int.tdiv ((awS ch f n).1 * f (Int.ofNat n)) 1000000000 ≤ 999
        omega
      · show 0 ≤ ((n : Nat) : Int) ∧ ((n : Nat) : Int) ≤ ((n + 1 : Nat) : Int)
        omega
    · exact ⟨b.2, ih.2.1, ih.2.2.1, Int.le_trans ih.2.2.2 (by omega)⟩
/-- the row so many days on -/
def rwi (m : Int → Int) (p i : Int) : Int → Int := fu (fu m 72 (m 72 + i)) (66 + p) (min 99 (m (66 + p) + i))
theorem rwi_0 {m : Int → Int} {p : Int} (h : m (66 + p) ≤ 99) : rwi m p 0 = m := by
  funext j
  unfold rwi fu
  by_cases c : j = 66 + p
  · rw [if_pos c, c]; omega
  · rw [if_neg c]
    by_cases e : j = 72
    · rw [if_pos e, e]; omega
    · rw [if_neg e]
theorem c_awaits : ∀ (a b c d e : Int) (σ : Mem), Inv σ → rg a → rg b → rg c → rg d → rg e → Pair mF_awaits mR_awaits [aI a, aI b, aI c, aI d, aI e] σ := by
  intro p x n ch w σ hI ha hb hc hd he
  have hM := hI.1.2.1
  obtain ⟨o, hH⟩ := hI.heldO
  obtain ⟨⟨m1, m2, m3, m4⟩, ⟨n1, n2, n3, n4⟩, -⟩ := hI.1.2.1
  have hR := hI.1.2.2.1
  have hV := hI.1.2.2.2
  have C2 := hI.2.1.2.2.2.2.1
  have q0 := hI.2.2.2.2.2.1
  have f72 := hV.W.2.2.2.2.2.1
  by_cases hx : ((0 ≤ p ∧ p < σ 64 38) ∧ (0 ≤ x ∧ x < σ 64 37) ∧ 0 < σ 81 (8 * p + x)) ∧ (0 ≤ n ∧ n ≤ 30) ∧ (0 ≤ ch ∧ ch ≤ 100) ∧ (0 ≤ w ∧ w ≤ 1)
  · obtain ⟨⟨x1, x2, x3⟩, x4, x5, x6⟩ := hx
    have fb : σ 38 (27 + p * 8 + x) = σ 81 (8 * p + x) := Cor.eq hR.S (Cor.fst ⟨by omega, by omega⟩ ⟨by omega, by omega⟩)
    obtain ⟨b1, b2, b3, b4⟩ := hV.W.ltB n1 (by decide) (p := p) (by omega)
    generalize hf : (fun k : Int => jV (whF o (ltr (σ 82 x) (σ 83 x) (σ 81 72 + k) (min 99 (σ 81 (66 + p) + k)) (σ 81 (60 + p)) (if σ 84 p = x then 1 else 0) (bcF (σ 81 (48 + p))))) (spv σ (σ 81 (48 + p)) x)) = f
    have fe : ∀ k, f k = jV (whF o (ltr (σ 82 x) (σ 83 x) (σ 81 72 + k) (min 99 (σ 81 (66 + p) + k)) (σ 81 (60 + p)) (if σ 84 p = x then 1 else 0) (bcF (σ 81 (48 + p))))) (spv σ (σ 81 (48 + p)) x) := fun k => by rw [← hf]
    have fr : ∀ k, 0 ≤ f k ∧ f k ≤ 999 := fun k => by
      rw [fe]
      have := jV_r (whF_r o (ltr (σ 82 x) (σ 83 x) (σ 81 72 + k) (min 99 (σ 81 (66 + p) + k)) (σ 81 (60 + p)) (if σ 84 p = x then 1 else 0) (bcF (σ 81 (48 + p))))) (spv_r hM (σ 81 (48 + p)) x)
      exact ⟨this.1, this.2.1⟩
    have ar := awS_r x5 fr
    have an := ar (n + 1).toNat
    refine pair_v (v := if w = 0 then (awS ch f (n + 1).toNat).2.2 else (awS ch f (n + 1).toNat).2.1) hI (by split; exact ⟨by omega, by omega⟩; exact ⟨by omega, by omega⟩) ?_ (fun τ hI2 hs => ?_)
    · refine bF_awaits_in (d := 993) ⟨ha, hb, hI.cOK, fun _ => ⟨hc, fun z => absurd z (by omega), fun _ => ⟨fun z => absurd z (by omega), fun _ => ⟨hd, fun z => absurd z (by omega), fun _ => ⟨fun z => absurd z (by omega), fun _ => ⟨he, fun z => absurd z (by omega), fun _ => ⟨fun _ => ?_, fun z => absurd z (by omega)⟩⟩⟩⟩⟩⟩, fun z => absurd (by rw [fb]; omega) z⟩
      have key : ∀ τ u7 u11, Sm σ τ scrSL scrSJ → Ev 999 mF_awaits 61 [vR 11, vI p, vI x, vI n, vI ch, vI w, vJ (awS ch f (0 : Int).toNat).1, u7, vI (awS ch f (0 : Int).toNat).2.1, vI (awS ch f (0 : Int).toNat).2.2, vI 0, u11] [] τ (fun r τ => r = rI (if w = 0 then (awS ch f (n + 1).toNat).2.2 else (awS ch f (n + 1).toNat).2.1) ∧ Sm σ τ scrSL scrSJ) := by
        refine loop_up (G := fun i => ∀ τ u7 u11, Sm σ τ scrSL scrSJ → Ev 999 mF_awaits 61 [vR 11, vI p, vI x, vI n, vI ch, vI w, vJ (awS ch f i.toNat).1, u7, vI (awS ch f i.toNat).2.1, vI (awS ch f i.toNat).2.2, vI i, u11] [] τ (fun r τ => r = rI (if w = 0 then (awS ch f (n + 1).toNat).2.2 else (awS ch f (n + 1).toNat).2.1) ∧ Sm σ τ scrSL scrSJ)) (hi := n + 1) _ 0 rfl (by omega) (fun i i0 i1 g => ?_) ?_
        · intro τ u7 u11 sm
          have e37 := sm.2 37 rfl
          have e38 := sm.2 38 rfl
          have ai := ar i.toNat
          refine bF_awaits_61 (d := 993) ⟨⟨by omega, by omega⟩, ⟨by omega, by omega⟩, fun z => absurd z (by omega), fun _ => ?_⟩
          refine joyC ((hI.scrS sm).1.2.1) (hH.sm sm (by decide) rfl) (T := σ 64 37) (P := σ 64 38) (D := 999) (B := 47952) (m := σ 81) (by rw [sm.1 38 rfl]; exact hR.S) hV.W e37.symm (by decide) 993 (by rw [e38]; exact x1) (by rw [e37]; exact x2) (k := i) ⟨by omega, by omega⟩ (fun τ1 s1 hd => ⟨(by omega), (by omega), Cl.mono hd (fun r τ2 hr => ?_)⟩)
          obtain ⟨rfl, rfl⟩ := hr
          have ev : jV (whF o (ltr (τ 82 x) (τ 83 x) (σ 81 72 + i) (min 99 (σ 81 (66 + p) + i)) (σ 81 (60 + p)) (if τ 84 p = x then 1 else 0) (bcF (σ 81 (48 + p))))) (spv τ (σ 81 (48 + p)) x) = f i := by
            rw [fe i, spv_cg (σ := σ) (τ := τ) (sm.2 39 rfl) ⟨sm.1 85 rfl, sm.1 86 rfl, sm.1 87 rfl⟩, sm.1 82 rfl, sm.1 83 rfl, sm.1 84 rfl]
          rw [ev]
          have fi := fr i
          have av := aw_v ai.1 fi
          have ap := aw_p ai.1 x5
          have s2 : Sm σ τ2 scrSL scrSJ := sm.trans (s1.mono (by decide) (by decide))
          have g1 := fun u11 => g τ2 vU u11 s2
          rw [awS_S i0] at g1
          refine ⟨⟨by omega, by omega⟩, ⟨by omega, by omega⟩, ⟨by omega, by omega⟩, ⟨by omega, by omega⟩, fun z => ⟨⟨by omega, by omega⟩, ⟨by omega, by omega⟩, ?_⟩, fun z => ⟨⟨by omega, by omega⟩, ⟨by omega, by omega⟩, ?_⟩⟩
          · rw [if_neg (by omega)] at g1; exact g1 _
          · rw [if_pos z] at g1; exact g1 _
        · intro τ u7 u11 sm
          refine bF_awaits_61 (d := 993) ⟨⟨by omega, by omega⟩, ⟨by omega, by omega⟩, fun _ => ⟨he, fun z => ⟨?_, sm⟩, fun z => ⟨?_, sm⟩⟩, fun z => absurd z (by omega)⟩
          · rw [if_neg z]
          · rw [if_pos z]
      exact key σ vU vU Sm.refl
    · have e64 : τ 64 37 = σ 64 37 ∧ τ 64 38 = σ 64 38 := ⟨hs.2 37 rfl, hs.2 38 rfl⟩
      have e81 := hs.1 81 rfl
      have f43 : τ 64 43 = 0 := by rw [hs.2 43 rfl]; exact q0
      refine bR_awaits_in (d := 991) ⟨ha, hb, hI2.mOK, fun _ => ⟨hc, fun _ => ⟨hd, fun _ => ⟨he, fun _ => ?_, fun z => absurd x6 z⟩, fun z => absurd x5 z⟩, fun z => absurd x4 z⟩, fun z => absurd (by rw [e64.1, e64.2, e81]; omega) z⟩
      refine asideR 997 (fun ω1 s1 v43 c91 => ?_)
      -- a day's weighing
      have day : ∀ (i : Int) (ω : Mem) (Q : RV → Mem → Prop), 0 ≤ i → i ≤ 30 → Sm τ ω [64, 73, 74, 81, 91] [43] → ω 81 = rwi (σ 81) p i → (∀ ω', Sm ω ω' [73, 74] [] → Q (rI (f i)) ω') → Cl 998 mR_joyOf [aR 64, aI p, aI x] ω Q := by
        intro i ω Q i0 i1 sm hr hQ
        have hM2 : MarkI ω := hI2.1.2.1.sm sm (by decide) (by decide)
        have r72 : ω 81 72 = σ 81 72 + i := by rw [hr]; unfold rwi; rw [fu_ne (by omega), fu_hit]
        have r66 : ω 81 (66 + p) = min 99 (σ 81 (66 + p) + i) := by rw [hr]; unfold rwi; rw [fu_hit]
        have r60 : ω 81 (60 + p) = σ 81 (60 + p) := by rw [hr]; unfold rwi; rw [fu_ne (by omega), fu_ne (by omega)]
        have r48 : ω 81 (48 + p) = σ 81 (48 + p) := by rw [hr]; unfold rwi; rw [fu_ne (by omega), fu_ne (by omega)]
        refine joyR hM2 ((hH.sm hs (by decide) rfl).sm sm (by decide) rfl) 991 (by rw [sm.2 38 rfl, e64.2]; exact x1) (by rw [sm.2 37 rfl, e64.1]; exact x2) (by rw [r48]; exact b2) (by rw [r72, r66, r60, r48]; exact ⟨(by omega), (by omega), b1.2.2.1, b1.2.2.2⟩) (fun ω' s' => ?_)
        have e : joyM ω o (ω 81) p x = f i := by
          rw [fe i]
          unfold joyM
          rw [r72, r66, r60, r48, spv_cg (σ := τ) (τ := ω) (sm.2 39 rfl) ⟨sm.1 85 rfl, sm.1 86 rfl, sm.1 87 rfl⟩, spv_cg (σ := σ) (τ := τ) (hs.2 39 rfl) ⟨hs.1 85 rfl, hs.1 86 rfl, hs.1 87 rfl⟩, sm.1 82 rfl, sm.1 83 rfl, sm.1 84 rfl, hs.1 82 rfl, hs.1 83 rfl, hs.1 84 rfl]
        rw [e]
        exact hQ ω' s'
      -- the row goes on a day
      have goOn : ∀ (i P a b : Int) (ω : Mem) (u7 : Option AV) (t : Int) (Q : RV → Mem → Prop), 0 ≤ i → i ≤ 30 → (0 ≤ P ∧ P ≤ 1000000000) → Sm τ ω [64, 73, 74, 81, 91] [43] → RG (ω 81) → ω 81 = rwi (σ 81) p i → (∀ ω', Sm τ ω' [64, 73, 74, 81, 91] [43] → ω' 64 43 = ω 64 43 → ω' 91 = ω 91 → RG (ω' 81) → ω' 81 = rwi (σ 81) p (i + 1) → Ev 999 mR_awaits 60 [vR 64, vI p, vI x, vI n, vI ch, vI w, vJ (P - Int.tdiv (P * ch) 100), vU, vI a, vI b, vI (i + 1), vI t] [] ω' Q) → Ev 999 mR_awaits 104 [vR 64, vI p, vI x, vI n, vI ch, vI w, vJ P, u7, vI a, vI b, vI i, vI t] [] ω Q := by
        intro i P a b ω u7 t Q i0 i1 hP sm hg hr k
        have ap := aw_p hP x5
        have r72 : ω 81 72 = σ 81 72 + i := by rw [hr]; unfold rwi; rw [fu_ne (by omega), fu_hit]
        have r66 : ω 81 (66 + p) = min 99 (σ 81 (66 + p) + i) := by rw [hr]; unfold rwi; rw [fu_hit]
        have u66 : (ups ω 81 72 (ω 81 72 + 1)) 81 (66 + p) = min 99 (σ 81 (66 + p) + i) := by rw [ups_fn (by omega), r66]
        refine bR_awaits_104 (d := 991) ⟨hd, ⟨by omega, by omega⟩, (by omega), (by omega), by rw [u66]; exact ⟨by omega, by omega⟩, ?_⟩
        rw [u66]
        refine k _ ((sm.ups rfl (Or.inl (by decide))).ups rfl (Or.inl (by decide))) (by rw [ups_ne (by decide), ups_ne (by decide)]) (by rw [ups_ne (by decide), ups_ne (by decide)]) ?_ ?_
        · rw [ups_row, ups_row, r72]; exact (hg.offu ⟨by omega, by omega⟩).offu ⟨by omega, by omega⟩
        · rw [ups_row, ups_row, r72, hr]
          funext j
          unfold rwi fu
          by_cases c : j = 66 + p
          · rw [if_pos c, if_pos c]; omega
          · rw [if_neg c, if_neg c]
            by_cases e : j = 72
            · rw [if_pos e, if_pos e]; omega
            · rw [if_neg e, if_neg e, if_neg c, if_neg e]
      have key : ∀ ω u7 u11, Sm τ ω [64, 73, 74, 81, 91] [43] → (∀ i, 0 ≤ i → i < 355 → ω 91 i = τ 81 i) → RG (ω 81) → ω 81 = rwi (σ 81) p 1 → Ev 999 mR_awaits 60 [vR 64, vI p, vI x, vI n, vI ch, vI w, vJ (awS ch f (1 : Int).toNat).1, u7, vI (awS ch f (1 : Int).toNat).2.2, vI (awS ch f (1 : Int).toNat).2.1, vI 1, u11] [] ω (fun r ω => r = rI (if w = 0 then (awS ch f (n + 1).toNat).2.2 else (awS ch f (n + 1).toNat).2.1) ∧ Sm τ ω (81 :: scrSL) scrSJ ∧ (∀ i, 0 ≤ i → i < 355 → ω 81 i = τ 81 i) ∧ RG (ω 81)) := by
        refine loop_up (G := fun i => ∀ ω u7 u11, Sm τ ω [64, 73, 74, 81, 91] [43] → (∀ i, 0 ≤ i → i < 355 → ω 91 i = τ 81 i) → RG (ω 81) → ω 81 = rwi (σ 81) p i → Ev 999 mR_awaits 60 [vR 64, vI p, vI x, vI n, vI ch, vI w, vJ (awS ch f i.toNat).1, u7, vI (awS ch f i.toNat).2.2, vI (awS ch f i.toNat).2.1, vI i, u11] [] ω (fun r ω => r = rI (if w = 0 then (awS ch f (n + 1).toNat).2.2 else (awS ch f (n + 1).toNat).2.1) ∧ Sm τ ω (81 :: scrSL) scrSJ ∧ (∀ i, 0 ≤ i → i < 355 → ω 81 i = τ 81 i) ∧ RG (ω 81))) (hi := n + 1) _ 1 rfl (by omega) (fun i i0 i1 g => ?_) ?_
        · intro ω u7 u11 sm c9 hg hr
          have ai := ar i.toNat
          have fi := fr i
          have av := aw_v ai.1 fi
          have ap := aw_p ai.1 x5
          refine bR_awaits_60 (d := 991) ⟨⟨by omega, by omega⟩, ⟨by omega, by omega⟩, fun z => absurd z (by omega), fun _ => day i ω _ (by omega) (by omega) sm hr (fun ω' s' => ⟨⟨by omega, by omega⟩, ⟨by omega, by omega⟩, ⟨by omega, by omega⟩, fun z => absurd z (by omega), fun _ => ⟨⟨by omega, by omega⟩, ⟨by omega, by omega⟩, fun z => ?_, fun z => ?_⟩⟩)⟩
          all_goals have s3 : Sm τ ω' [64, 73, 74, 81, 91] [43] := sm.trans (s'.mono (by decide) (by decide))
          · refine goOn i _ _ _ ω' _ _ _ (by omega) (by omega) ai.1 s3 (by rw [s'.1 81 rfl]; exact hg) (by rw [s'.1 81 rfl]; exact hr) (fun ω3 s4 _ c4 g4 r4 => ?_)
            have g1 := g ω3 vU (vI (Int.tdiv ((awS ch f i.toNat).1 * f i) 1000000000)) s4 (fun j a b => by rw [c4, s'.1 91 rfl]; exact c9 j a b) g4 r4
            rw [awS_S (show 0 ≤ i by omega), if_neg (by omega)] at g1
            exact g1
          · refine goOn i _ _ _ ω' _ _ _ (by omega) (by omega) ai.1 s3 (by rw [s'.1 81 rfl]; exact hg) (by rw [s'.1 81 rfl]; exact hr) (fun ω3 s4 _ c4 g4 r4 => ?_)
            have g1 := g ω3 vU (vI (Int.tdiv ((awS ch f i.toNat).1 * f i) 1000000000)) s4 (fun j a b => by rw [c4, s'.1 91 rfl]; exact c9 j a b) g4 r4
            rw [awS_S (show 0 ≤ i by omega), if_pos z] at g1
            exact g1
        · intro ω u7 u11 sm c9 hg hr
          refine bR_awaits_60 (d := 991) ⟨⟨by omega, by omega⟩, ⟨by omega, by omega⟩, fun _ => backR 997 hg (fun i i0 i1 => by rw [c9 i i0 i1, e81]; exact C2 i) (fun ω3 s3 v3 c3 g3 => ?_), fun z => absurd z (by omega)⟩
          have fin : Sm τ ω3 (81 :: scrSL) scrSJ ∧ (∀ i, 0 ≤ i → i < 355 → ω3 81 i = τ 81 i) ∧ RG (ω3 81) := ⟨Sm.drop (j := 43) ((sm.mono (by decide) (by decide)).trans (s3.mono (by decide) (by decide))) (by rw [v3, f43]), fun i i0 i1 => by rw [c3 i i0 i1]; exact c9 i i0 i1, g3⟩
          refine ⟨he, fun z => ⟨?_, fin⟩, fun z => ⟨?_, fin⟩⟩
          · rw [if_neg z]
          · rw [if_pos z]
      have o81 : ω1 81 = rwi (σ 81) p 0 := by rw [s1.1 81 rfl, e81, rwi_0 b4.2]
      have g81 : RG (ω1 81) := by rw [s1.1 81 rfl, e81]; exact C2
      have sm1 : Sm τ ω1 [64, 73, 74, 81, 91] [43] := s1.mono (by decide) (by decide)
      have f0 := fr 0
      have av := aw_v (P := 1000000000) (by decide) f0
      have ap := aw_p (P := 1000000000) (by decide) x5
      refine bR_awaits_60 (d := 991) ⟨by decide, ⟨by omega, by omega⟩, fun z => absurd z (by omega), fun _ => day 0 ω1 _ (by decide) (by decide) sm1 o81 (fun ω' s' => ⟨⟨by omega, by omega⟩, ⟨by omega, by omega⟩, by decide, fun _ => ?_, fun z => absurd rfl z⟩)⟩
      refine goOn 0 _ _ _ ω' _ _ _ (by decide) (by decide) (by decide) (sm1.trans (s'.mono (by decide) (by decide))) (by rw [s'.1 81 rfl]; exact g81) (by rw [s'.1 81 rfl]; exact o81) (fun ω3 s4 _ c4 g4 r4 => ?_)
      have g1 := key ω3 vU (vI (Int.tdiv (1000000000 * f 0) 1000000000)) s4 (fun j a b => by rw [c4, s'.1 91 rfl]; exact c91 j a b) g4 r4
      have un : awS ch f (1 : Int).toNat = (1000000000 - Int.tdiv (1000000000 * ch) 100, Int.tdiv (1000000000 * f 0) 1000000000, 0) := by
        have := awS_S (ch := ch) (f := f) (i := 0) (by decide)
        rw [show (0 : Int) + 1 = 1 from rfl] at this
        rw [this]
        exact if_pos (show (-1 : Int) < Int.tdiv (1000000000 * f 0) 1000000000 by omega)
      rw [un] at g1
      exact g1
  · refine pair_q (v := -1) hI (by decide) ?_ ?_
    · refine bF_awaits_in (d := 993) ⟨ha, hb, hI.cOK, fun h1 => ⟨hc, fun _ => ⟨rfl, rfl⟩, fun h2 => ⟨fun _ => ⟨rfl, rfl⟩, fun h3 => ⟨hd, fun _ => ⟨rfl, rfl⟩, fun h4 => ⟨fun _ => ⟨rfl, rfl⟩, fun h5 => ⟨he, fun _ => ⟨rfl, rfl⟩, fun h6 => ⟨fun h7 => absurd ?_ hx, fun _ => ⟨rfl, rfl⟩⟩⟩⟩⟩⟩⟩, fun _ => ⟨rfl, rfl⟩⟩
      have fb : σ 38 (27 + p * 8 + x) = σ 81 (8 * p + x) := Cor.eq hR.S (Cor.fst ⟨by omega, by omega⟩ ⟨by omega, by omega⟩)
      rw [← fb]; omega
    · exact bR_awaits_in (d := 991) ⟨ha, hb, hI.mOK, fun h1 => ⟨hc, fun h2 => ⟨hd, fun h3 => ⟨he, fun h4 => absurd ⟨by omega, h2, h3, h4⟩ hx, fun _ => ⟨rfl, rfl⟩⟩, fun _ => ⟨rfl, rfl⟩⟩, fun _ => ⟨rfl, rfl⟩⟩, fun _ => ⟨rfl, rfl⟩⟩
