theorem c_pairing : ∀ (a : Int) (σ : Mem), Inv σ → rg a → Pair mF_pairing mR_pairing [aI a] σ := by
  intro w σ hI hw
  have hM := hI.1.2.1
  obtain ⟨o, hH⟩ := hI.heldO
  obtain ⟨⟨m1, m2, m3, m4⟩, ⟨n1, n2, n3, n4⟩, nn, -⟩ := hI.1.2.1
  have hR := hI.1.2.2.1
  have hV := hI.1.2.2.2
  have C2 := hI.2.1.2.2.2.2.1
  have sh := shl_T n1
  by_cases hx : 0 < σ 64 37 ∧ 0 ≤ w ∧ w ≤ 1
  · obtain ⟨x1, x2⟩ := hx
    have hP1 : 0 < σ 64 38 := nn.1 x1
    have hG : ∀ p t, 0 ≤ joyM σ o (σ 81) p t ∧ joyM σ o (σ 81) p t ≤ 999 := fun p t => joyM_r hM o (σ 81) p t
    obtain ⟨hh1, hh2, hh3⟩ := ham_r (m := σ 81) (P := σ 64 38) n1
    generalize hHm : ham (σ 81) (σ 64 37) (σ 64 38) = H at *
    have br := fun n => bmt_r (G := fun p x => joyM σ o (σ 81) p x) (H := H) (T := σ 64 37) (P := σ 64 38) hG (by omega) n
    generalize hF : bmt (fun p x => joyM σ o (σ 81) p x) H (σ 64 37) (σ 64 38) = F at *
    have F_S : ∀ n K, F (n + 1) K = cmb (F n) (fun x => joyM σ o (σ 81) (σ 64 38 - ((n + 1 : Nat) : Int)) x) H K (10 ^ n) (σ 64 37).toNat := fun n K => by rw [← hF]; rfl
    have bP := br (σ 64 38).toNat 0
    have p6 : (10 : Int) ^ (σ 64 38).toNat ≤ 1000000 := by
      have e : σ 64 38 = 0 ∨ σ 64 38 = 1 ∨ σ 64 38 = 2 ∨ σ 64 38 = 3 ∨ σ 64 38 = 4 ∨ σ 64 38 = 5 ∨ σ 64 38 = 6 := by omega
      rcases e with e | e | e | e | e | e | e <;> rw [e] <;> decide
    refine pair_v (v := if w = 0 then (F (σ 64 38).toNat 0).2 else (F (σ 64 38).toNat 0).1) hI (by split; exact ⟨by omega, by omega⟩; exact ⟨by omega, by omega⟩) ?_ (fun τ hI2 hs => ?_)
    · refine bF_pairing_in (d := 993) ⟨⟨by omega, by omega⟩, fun _ => ⟨hw, fun q => absurd q (by omega), fun _ => ⟨fun _ => ?_, fun q => absurd q (by omega)⟩⟩, fun q => absurd (show 0 < σ 15 0 by omega) q⟩
      refine heldAnyC hM hR.S hV.W (by decide) 994 ?_
      rw [hHm]
      refine bSe_beginMatch_in (fill51 996 (fun τ1 s1 z1 => fill53 996 (fun τ2 s2 z2 => ?_)))
      have t15 : τ2 15 1 = σ 64 38 := by rw [s2.1 15 rfl, s1.1 15 rfl]; exact m2
      rw [t15]
      have key : ∀ τ u5, Sm σ τ scrSL scrSJ → (∀ K, 0 ≤ K → K < i_shl 1 (σ 64 37) → τ 51 K = (F (0 : Int).toNat K).1 ∧ τ 53 K = (F (0 : Int).toNat K).2) → Ev 999 mF_pairing 49 [vR 11, vI w, vI H, vI (10 ^ (0 : Int).toNat), vI (σ 64 38 - 1 - 0), u5] [] τ (fun r τ => r = rI (if w = 0 then (F (σ 64 38).toNat 0).2 else (F (σ 64 38).toNat 0).1) ∧ Sm σ τ scrSL scrSJ) := by
        refine loop_up (G := fun n => ∀ τ u5, Sm σ τ scrSL scrSJ → (∀ K, 0 ≤ K → K < i_shl 1 (σ 64 37) → τ 51 K = (F n.toNat K).1 ∧ τ 53 K = (F n.toNat K).2) → Ev 999 mF_pairing 49 [vR 11, vI w, vI H, vI (10 ^ n.toNat), vI (σ 64 38 - 1 - n), u5] [] τ (fun r τ => r = rI (if w = 0 then (F (σ 64 38).toNat 0).2 else (F (σ 64 38).toNat 0).1) ∧ Sm σ τ scrSL scrSJ)) (hi := σ 64 38) _ 0 rfl n2.1 (fun n n0' n1' k => ?_) ?_
        · intro τ u5 sm ht
          have e37 : τ 64 37 = σ 64 37 := sm.2 37 rfl
          have e38 : τ 64 38 = σ 64 38 := sm.2 38 rfl
          have hI3 := hI.scrS sm
          have hM3 := hI3.1.2.1
          obtain ⟨b1, b2, b3, b4⟩ := hV.W.ltB n1 (by decide) (p := σ 64 38 - 1 - n) (by omega)
          refine bF_pairing_49 (d := 993) ⟨⟨by omega, by omega⟩, fun q => absurd q (by omega), fun _ => ?_⟩
          refine lookS37 (m := σ 81) hM3 (hH.sm sm (by decide) rfl) (T := σ 64 37) (P := σ 64 38) (D := 999) (B := 47952) (by rw [sm.1 38 rfl]; exact hR.S) hV.W e37.symm (by decide) 993 (by rw [e38]; exact ⟨by omega, by omega⟩) (k := 0) (by decide) (j := 0) (by decide) (fun τ1 sm1 tb => ?_)
          have s1 : Sm σ τ1 scrSL scrSJ := sm.trans (sm1.mono (by decide) (by decide))
          have e3 : τ1 38 (3 + (σ 64 38 - 1 - n) * 4 + 3) = σ 81 (48 + (σ 64 38 - 1 - n)) := by rw [s1.1 38 rfl]; exact Cor.eq hR.S (Cor.had (by omega))
          have in72 : ∀ ω, Sm τ1 ω [54] [] → (∀ t, 0 ≤ t → t < 0 → ω 54 t = if bt H t = true then joyM σ o (σ 81) (σ 64 38 - 1 - n) t else -1) → Ev 999 mF_pairing 72 [vR 11, vI w, vI H, vI (10 ^ n.toNat), vI (σ 64 38 - 1 - n), vI 0] [] ω (fun r τ => r = rI (if w = 0 then (F (σ 64 38).toNat 0).2 else (F (σ 64 38).toNat 0).1) ∧ Sm σ τ scrSL scrSJ) := by
            refine loop_up (G := fun i => ∀ ω, Sm τ1 ω [54] [] → (∀ t, 0 ≤ t → t < i → ω 54 t = if bt H t = true then joyM σ o (σ 81) (σ 64 38 - 1 - n) t else -1) → Ev 999 mF_pairing 72 [vR 11, vI w, vI H, vI (10 ^ n.toNat), vI (σ 64 38 - 1 - n), vI i] [] ω (fun r τ => r = rI (if w = 0 then (F (σ 64 38).toNat 0).2 else (F (σ 64 38).toNat 0).1) ∧ Sm σ τ scrSL scrSJ)) (hi := σ 64 37) _ 0 rfl n1.1 (fun t t0 t1 g => ?_) ?_
            · intro ω sω lo
              have f15 : ω 15 0 = σ 64 37 := by rw [sω.1 15 rfl, s1.1 15 rfl]; exact m1
              have s2 : Sm σ ω scrSL scrSJ := s1.trans (sω.mono (by decide) (by decide))
              have nx : ∀ v, (v = if bt H t = true then joyM σ o (σ 81) (σ 64 38 - 1 - n) t else -1) → Ev 999 mF_pairing 72 [vR 11, vI w, vI H, vI (10 ^ n.toNat), vI (σ 64 38 - 1 - n), vI (t + 1)] [] (ups ω 54 t v) (fun r τ => r = rI (if w = 0 then (F (σ 64 38).toNat 0).2 else (F (σ 64 38).toNat 0).1) ∧ Sm σ τ scrSL scrSJ) := by
                intro v hv
                refine g _ (sω.ups rfl (Or.inl (by decide))) (fun t' a b => ?_)
                by_cases e : t' = t
                · rw [e, ups_hit]; exact hv
                · rw [ups_fn e]; exact lo t' a (by omega)
              refine bF_pairing_72 (d := 993) ⟨⟨by omega, by omega⟩, by rw [f15]; exact ⟨by omega, by omega⟩, fun q => absurd q (by rw [f15]; omega), fun _ => ⟨rg_and _ _, fun q => ⟨t0, (by omega), nx _ ?_⟩, fun q => ⟨(by omega), (by omega), ?_⟩⟩⟩
              · rw [if_neg (fun z => q ((hb_bt ⟨by omega, by omega⟩ ⟨by omega, by omega⟩).mpr z))]
              · have hb := (hb_bt (s := H) (t := t) ⟨by omega, by omega⟩ ⟨by omega, by omega⟩).mp q
                rw [show ω 38 (3 + (σ 64 38 - 1 - n) * 4 + 3) = σ 81 (48 + (σ 64 38 - 1 - n)) by rw [sω.1 38 rfl]; exact e3]
                have hw46 := tb (bcF (σ 81 (48 + (σ 64 38 - 1 - n)))) t (Int.le_refl _) (by omega) t0 (by omega)
                refine delightC ((hI.scrS s2).1.2.1) 995 ⟨by omega, by omega⟩ b2 (by rw [sω.1 46 rfl]; exact hw46) (whF_r _ _) ⟨t0, (by omega), nx _ ?_⟩
                rw [if_pos hb]
                unfold joyM
                rw [spv_cg (σ := σ) (τ := ω) (s2.2 39 rfl) ⟨s2.1 85 rfl, s2.1 86 rfl, s2.1 87 rfl⟩, sm.1 82 rfl, sm.1 83 rfl, sm.1 84 rfl, Int.add_zero, Int.add_zero, show min 99 (σ 81 (66 + (σ 64 38 - 1 - n))) = σ 81 (66 + (σ 64 38 - 1 - n)) by omega]
            · intro ω sω lo
              have s2 : Sm σ ω scrSL scrSJ := s1.trans (sω.mono (by decide) (by decide))
              have f15 : ω 15 0 = σ 64 37 := by rw [s2.1 15 rfl]; exact m1
              have f37 : ω 64 37 = σ 64 37 := s2.2 37 rfl
              refine bF_pairing_72 (d := 993) ⟨⟨by omega, by omega⟩, by rw [f15]; exact ⟨by omega, by omega⟩, fun _ => ?_, fun q => absurd q (by rw [f15]; omega)⟩
              refine matchC ((hI.scrS s2).1.2.1) 996 (f := F n.toNat) (g := fun x => joyM σ o (σ 81) (σ 64 38 - 1 - n) x) (H := H) (B := 999 * (n.toNat : Int)) (br n.toNat) (fun t => hG _ t) (by omega) (fun t t0 t1 => lo t t0 (by omega)) (fun K K0 K1 => ?_) (fun ω2 s3 h2 => ?_)
              · rw [sω.1 51 rfl, sω.1 53 rfl, sm1.1 51 rfl, sm1.1 53 rfl]
                exact ht K K0 (by rw [← e37, ← s1.2 37 rfl] at *; rw [f37] at K1; exact K1)
              · have k2 := k ω2 (vI (σ 64 37)) (s2.trans (s3.mono (by decide) (by decide))) (fun K K0 K1 => ?_)
                · rw [show (n + 1).toNat = n.toNat + 1 by omega, Int.pow_succ, show σ 64 38 - 1 - (n + 1) = σ 64 38 - 1 - n + (-1) by omega] at k2
                  exact k2
                · rw [show (n + 1).toNat = n.toNat + 1 by omega, F_S, show σ 64 38 - ((n.toNat + 1 : Nat) : Int) = σ 64 38 - 1 - n by omega]
                  rw [f37] at h2
                  exact h2 K K0 K1
          exact in72 τ1 Sm.refl (fun t a b => absurd b (by omega))
        · intro τ u5 sm ht
          have h0 := ht 0 (by decide) (by omega)
          refine bF_pairing_49 (d := 993) ⟨⟨by omega, by omega⟩, fun _ => ⟨hw, fun q => ⟨?_, sm⟩, fun q => ⟨?_, sm⟩⟩, fun q => absurd q (by omega)⟩
          · rw [if_neg q, h0.1]
          · rw [if_pos q, h0.2]
      have s3 : Sm σ τ2 scrSL scrSJ := (s1.mono (by decide) (by decide)).trans (s2.mono (by decide) (by decide))
      have := key τ2 vU s3 (fun K K0 K1 => ?_)
      · rw [Int.sub_zero] at this; exact this
      · rw [s2.1 51 rfl, z1 K K0 (by omega), z2 K K0 (by omega), ← hF]; exact ⟨rfl, rfl⟩
    · have e37 : τ 64 37 = σ 64 37 := hs.2 37 rfl
      have e38 : τ 64 38 = σ 64 38 := hs.2 38 rfl
      have e81 := hs.1 81 rfl
      have hH2 := hH.sm hs (by decide) rfl
      have eG : (fun p x => joyM τ o (τ 81) p x) = fun p x => joyM σ o (σ 81) p x := by
        funext p x
        rw [e81]
        exact joyM_cg (hs.2 39 rfl) ⟨hs.1 82 rfl, hs.1 83 rfl, hs.1 84 rfl, hs.1 85 rfl, hs.1 86 rfl, hs.1 87 rfl⟩
      refine bR_pairing_in (d := 978) ⟨⟨by omega, by omega⟩, fun q => absurd q (by omega), fun _ => ⟨hw, fun _ => ?_, fun q => absurd x2 q⟩⟩
      refine loop_up (G := fun t => Ev 999 mR_pairing 22 [vR 64, vI w, vI (bldS (fun t => anh (σ 81) t (σ 64 38).toNat) t.toNat), vI t] [] τ (fun r ω => r = rI (if w = 0 then (F (σ 64 38).toNat 0).2 else (F (σ 64 38).toNat 0).1) ∧ Sm τ ω (81 :: scrSL) scrSJ ∧ (∀ i, 0 ≤ i → i < 355 → ω 81 i = τ 81 i) ∧ RG (ω 81))) (hi := σ 64 37) _ 0 rfl n1.1 (fun t t0 t1 g => ?_) ?_
      · rw [bldS_S t0] at g
        have bb := bldS_r (p := fun t => anh (σ 81) t (σ 64 38).toNat) t.toNat (by omega)
        have p2 := p2_le (T := t) ⟨by omega, by omega⟩
        refine bR_pairing_22 (d := 978) ⟨⟨by omega, by omega⟩, by rw [e37]; exact ⟨by omega, by omega⟩, fun q => absurd q (by rw [e37]; omega), fun _ => heldSomeR (T := σ 64 37) (P := σ 64 38) (D := 999) (B := 47952) (by rw [e81]; exact hV.W) (by decide) (by rw [e38]; exact n2) 996 ⟨by omega, by omega⟩ ⟨by split <;> decide, fun q => ?_, fun q => ?_⟩⟩
        · rw [e81, e38] at q
          rw [if_neg (fun z => by rw [if_pos z] at q; cases q)] at g
          rw [i_or_0 ⟨by omega, by omega⟩]; exact g
        · rw [e81, e38] at q
          by_cases z : anh (σ 81) t (σ 64 38).toNat = true
          · rw [if_pos z] at g; exact g
          · rw [if_neg z] at q; exact absurd rfl q
      · refine bR_pairing_22 (d := 978) ⟨⟨by omega, by omega⟩, by rw [e37]; exact ⟨by omega, by omega⟩, fun _ => ?_, fun q => absurd q (by rw [e37]; omega)⟩
        rw [show bldS (fun t => anh (σ 81) t (σ 64 38).toNat) (σ 64 37).toNat = H from hHm]
        have t1 := tryR hI2 hH2 (H := H) (σ 64 38).toNat (990 - (σ 64 38).toNat) 0 H 0 0 (ups τ 64 51 (-1)) (fun r1 τ2 => oV r1 ((rg w) ∧ ((w : Int) ≠ 0 → (fun r ω => r = rI (if w = 0 then (F (σ 64 38).toNat 0).2 else (F (σ 64 38).toNat 0).1) ∧ Sm τ ω (81 :: scrSL) scrSJ ∧ (∀ i, 0 ≤ i → i < 355 → ω 81 i = τ 81 i) ∧ RG (ω 81)) (rI (τ2 64 52)) τ2) ∧ ((w : Int) = 0 → (fun r ω => r = rI (if w = 0 then (F (σ 64 38).toNat 0).2 else (F (σ 64 38).toNat 0).1) ∧ Sm τ ω (81 :: scrSL) scrSJ ∧ (∀ i, 0 ≤ i → i < 355 → ω 81 i = τ 81 i) ∧ RG (ω 81)) (rI (τ2 64 51)) τ2))) (by omega) (by decide) hh2 (fun u u0 u1 => by rw [bt_0]; simp) (by decide) (by rw [Int.zero_add, Int.one_mul]; exact p6) ⟨by decide, by omega⟩ (Sm.refl.ups rfl (Or.inr rfl)) ⟨by show rg (ups τ 64 51 (-1) 64 51); rw [ups_hit]; decide, fun z => absurd (show ups τ 64 51 (-1) 64 51 = -1 from ups_hit) z⟩ (fun ω s1 e => ?_)
        · rw [e38, Int.toNat_of_nonneg n2.1, Int.sub_self, show 990 - (σ 64 38).toNat + (σ 64 38).toNat + 8 = 998 by omega] at t1
          exact t1
        · rw [eG, e37, e38, hF] at e
          unfold upk at e
          rw [if_pos (Or.inl (show ups τ 64 51 (-1) 64 51 = -1 from ups_hit)), Int.zero_mul, Int.zero_add, Int.zero_add] at e
          have a1 : ω 64 51 = (F (σ 64 38).toNat 0).2 := congrArg Prod.fst e
          have a2 : ω 64 52 = (F (σ 64 38).toNat 0).1 := congrArg Prod.snd e
          have c81 : ω 81 = τ 81 := s1.1 81 rfl
          have fin : Sm τ ω (81 :: scrSL) scrSJ ∧ (∀ i, 0 ≤ i → i < 355 → ω 81 i = τ 81 i) ∧ RG (ω 81) := ⟨s1.mono (by decide) (by decide), fun i _ _ => by rw [c81], by rw [c81, e81]; exact C2⟩
          refine ⟨hw, fun q => ⟨?_, fin⟩, fun q => ⟨?_, fin⟩⟩
          · rw [if_neg q, a2]
          · rw [if_pos q, a1]
  · refine pair_q (v := -1) hI (by decide) ?_ ?_
    · exact bF_pairing_in (d := 993) ⟨⟨by omega, by omega⟩, fun h1 => ⟨hw, fun _ => ⟨rfl, rfl⟩, fun h2 => ⟨fun h3 => absurd ⟨by omega, h2, h3⟩ hx, fun _ => ⟨rfl, rfl⟩⟩⟩, fun _ => ⟨rfl, rfl⟩⟩
    · exact bR_pairing_in (d := 978) ⟨⟨by omega, by omega⟩, fun _ => ⟨rfl, rfl⟩, fun h1 => ⟨hw, fun h2 => absurd ⟨by omega, h2.1, h2.2⟩ hx, fun _ => ⟨rfl, rfl⟩⟩⟩
