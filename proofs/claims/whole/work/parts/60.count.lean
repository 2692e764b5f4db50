/-! ===== LOOPS; CASE: count ===== -/
theorem loop_up {G : Int → Prop} {hi : Int} : ∀ (n : Nat) (i : Int), (hi - i).toNat = n → i ≤ hi → (∀ j, i ≤ j → j < hi → G (j + 1) → G j) → G hi → G i
  | 0, i, h, hle, hs, he => by have e : i = hi := by omega
                               rw [e]; exact he
  | n + 1, i, h, hle, hs, he => hs i (Int.le_refl _) (by omega) (loop_up n (i + 1) (by omega) (by omega) (fun j a b => hs j (by omega) b) he)
theorem sumI_S {f : Int → Int} {i : Int} (h : 0 ≤ i) : sumI f (i + 1).toNat = sumI f i.toNat + f i := by
  rw [show (i + 1).toNat = i.toNat + 1 by omega]
  show sumI f i.toNat + f (Int.ofNat i.toNat) = _
  rw [show Int.ofNat i.toNat = i from Int.toNat_of_nonneg h]
theorem sumI_mono {f : Int → Int} {m : Nat} : ∀ {n : Nat}, m ≤ n → (∀ i : Int, 0 ≤ i → i < (n : Int) → 0 ≤ f i) → sumI f m ≤ sumI f n
  | 0, h, _ => by rw [show m = 0 by omega]; exact Int.le_refl _
  | n + 1, h, hf => by
    by_cases e : m = n + 1
    · rw [e]; exact Int.le_refl _
    · have h1 := sumI_mono (f := f) (m := m) (n := n) (by omega) (fun i h0 h1 => hf i h0 (by omega))
      have h2 := hf (Int.ofNat n) (Int.ofNat_nonneg n) (by show ((n : Nat) : Int) < _; omega)
      show sumI f m ≤ sumI f n + f (Int.ofNat n)
      omega
def joyS (σ : Mem) : Int := sumI (fun k => σ 81 (54 + k)) (σ 64 38).toNat
theorem joyS_rg {σ : Mem} (hI : Inv σ) : 0 ≤ joyS σ ∧ joyS σ ≤ 47952 := by
  obtain ⟨v0, -, v1, -, -, -, v2, -⟩ := hI.1.2.2.2
  have hp := hI.1.2.1.2.1.2.1
  have nn : ∀ i : Int, 0 ≤ i → i < ((6 : Nat) : Int) → 0 ≤ σ 81 (54 + i) := fun i h0 h1 => v0 (54 + i) (by omega) (by omega)
  have s1 := sumI_mono (f := fun k => σ 81 (54 + k)) (m := (σ 64 38).toNat) (n := 6) (by omega) nn
  have s2 := sumI_nn (f := σ 81) (n := 48) (fun i h0 h1 => v0 i h0 (by omega))
  have s3 := sumI_nn (f := fun k => σ 81 (54 + k)) (n := (σ 64 38).toNat) (fun i h0 h1 => nn i h0 (by omega))
  unfold joyS
  omega
theorem joysR {σ : Mem} (hI : Inv σ) (d : Nat) : Cl (d + 1) mR_joysOfAll [aR 64] σ (fun r τ => r = rI (joyS σ) ∧ τ = σ) := by
  have hp := hI.1.2.1.2.1.2.1
  refine bR_joysOfAll_in (loop_up (G := fun i => Ev (d + 1) mR_joysOfAll 4 [vR 64, vI (sumI (fun k => σ 81 (54 + k)) i.toNat), vI i] [] σ (fun r τ => r = rI (joyS σ) ∧ τ = σ)) (hi := σ 64 38) _ 0 rfl hp.1 (fun j j0 j1 h => ?_) ?_)
  · refine bR_joysOfAll_4 ⟨⟨by omega, by omega⟩, ⟨by omega, by omega⟩, fun q => absurd q (by omega), fun _ => ⟨by omega, by omega, ?_⟩⟩
    rw [← sumI_S (f := fun k => σ 81 (54 + k)) j0]; exact h
  · exact bR_joysOfAll_4 ⟨⟨by omega, by omega⟩, ⟨by omega, by omega⟩, fun _ => ⟨rfl, rfl⟩, fun q => absurd q (by omega)⟩
theorem joysC {σ : Mem} (hI : Inv σ) (d : Nat) : Cl (d + 3) mSt_joyOfAll [aR 37] σ (fun r τ => r = rI (joyS σ) ∧ τ = σ) := by
  have hp := hI.1.2.1.2.1.2.1
  have hm := hI.1.2.1.1.2.1
  obtain ⟨-, r1, -⟩ := hI.1.2.2.1
  refine bSt_joyOfAll_r37_in (loop_up (G := fun i => Ev (d + 3) mSt_joyOfAll 4 [vR 37, vI (sumI (fun k => σ 81 (54 + k)) i.toNat), vI i] [] σ (fun r τ => r = rI (joyS σ) ∧ τ = σ)) (hi := σ 64 38) _ 0 rfl hp.1 (fun j j0 j1 h => ?_) ?_)
  · refine bSt_joyOfAll_r37_4 ⟨⟨by omega, by omega⟩, ⟨by omega, by omega⟩, fun q => absurd q (by omega), fun _ => ⟨by omega, by omega, ?_⟩⟩
    have e : σ 38 ((3 + (j * 4)) + 2) = σ 81 (54 + j) := by rw [show (3 + (j * 4) + 2 : Int) = 3 + 4 * j + 2 by omega]; exact (r1 j j0 (by omega)).2.2.1
    rw [e, ← sumI_S (f := fun k => σ 81 (54 + k)) j0]; exact h
  · exact bSt_joyOfAll_r37_4 ⟨⟨by omega, by omega⟩, ⟨by omega, by omega⟩, fun _ => ⟨rfl, rfl⟩, fun q => absurd q (by omega)⟩
theorem c_count : ∀ (a : Int) (σ : Mem), Inv σ → rg a → Pair mF_count mR_count [aI a] σ := by
  intro a σ hI ha
  obtain ⟨⟨m1, m2, m3, m4⟩, ⟨n1, n2, n3, n4⟩, -⟩ := hI.1.2.1
  obtain ⟨⟨r1, r2, r3⟩, -⟩ := hI.1.2.2.1
  obtain ⟨-, -, -, -, -, v1, v2, -, v3, -⟩ := hI.1.2.2.2
  obtain ⟨t1, t2, t3, -⟩ := hI.1.1
  obtain ⟨⟨p1, p2, p3⟩, -⟩ := hI.2.1.1
  obtain ⟨⟨e1, e2, e3⟩, ⟨e4, e5, e6⟩, -⟩ := hI.2.1.2.2.1
  obtain ⟨⟨l1, l2, l3⟩, -⟩ := hI.2.2.1
  obtain ⟨⟨g1, g2, g3⟩, ⟨g4, g5, g6⟩, -⟩ := hI.2.2.2.1
  obtain ⟨⟨q1, q2, q3⟩, -⟩ := hI.2.2.2.2
  have hj := joyS_rg hI
  have key : ∀ v : Int, rg v → v = (if a = 0 then σ 64 37 else if a = 1 then σ 64 38 else if a = 2 then σ 64 39 else if a = 3 then σ 64 40 else if a = 4 then σ 64 13 else if a = 5 then σ 64 27 else if a = 6 then σ 64 2 else if a = 7 then σ 64 42 else if a = 8 then σ 81 72 else if a = 9 then σ 64 41 else if a = 10 then σ 81 73 else if a = 11 then σ 81 114 else if a = 12 then σ 64 55 else if a = 13 then σ 64 60 else if a = 14 then σ 64 45 else if a = 15 then joyS σ else -1000000) → Pair mF_count mR_count [aI a] σ := by
    intro v hv e
    refine pair_q (v := v) hI hv ?_ ?_
    · refine bF_count_in (d := 995) ⟨ha, fun z => ⟨?_, rfl⟩, fun n0 => ⟨fun z => ⟨?_, rfl⟩, fun n1 => ⟨fun z => ⟨?_, rfl⟩, fun n2 => ⟨fun z => ⟨?_, rfl⟩, fun n3 => ⟨fun z => ⟨?_, rfl⟩, fun n4 => ⟨fun z => ⟨?_, rfl⟩, fun n5 => ⟨fun z => ⟨?_, rfl⟩, fun n6 => ⟨fun z => ⟨?_, rfl⟩, fun n7 => ⟨fun z => ⟨?_, rfl⟩, fun n8 => ⟨fun z => ⟨?_, rfl⟩, fun n9 => ⟨fun z => ⟨?_, rfl⟩, fun n10 => ⟨fun z => ⟨?_, rfl⟩, fun n11 => ⟨fun z => ⟨?_, rfl⟩, fun n12 => ⟨fun z => ⟨?_, rfl⟩, fun n13 => ⟨fun z => ⟨?_, rfl⟩, fun n14 => ⟨fun z => Cl.mono (joysC hI 995) (fun r τ h => ?_), fun n15 => ⟨?_, rfl⟩⟩⟩⟩⟩⟩⟩⟩⟩⟩⟩⟩⟩⟩⟩⟩⟩
      all_goals first | (rw [e]; simp [*]; done) | (obtain ⟨rfl, rfl⟩ := h; exact ⟨by rw [e]; simp [*], rfl⟩)
    · refine bR_count_in (d := 997) ⟨ha, fun z => ⟨?_, rfl⟩, fun n0 => ⟨fun z => ⟨?_, rfl⟩, fun n1 => ⟨fun z => ⟨?_, rfl⟩, fun n2 => ⟨fun z => ⟨?_, rfl⟩, fun n3 => ⟨fun z => ⟨?_, rfl⟩, fun n4 => ⟨fun z => ⟨?_, rfl⟩, fun n5 => ⟨fun z => ⟨?_, rfl⟩, fun n6 => ⟨fun z => ⟨?_, rfl⟩, fun n7 => ⟨fun z => ⟨?_, rfl⟩, fun n8 => ⟨fun z => ⟨?_, rfl⟩, fun n9 => ⟨fun z => ⟨?_, rfl⟩, fun n10 => ⟨fun z => ⟨?_, rfl⟩, fun n11 => ⟨fun z => ⟨?_, rfl⟩, fun n12 => ⟨fun z => ⟨?_, rfl⟩, fun n13 => ⟨fun z => ⟨?_, rfl⟩, fun n14 => ⟨fun z => Cl.mono (joysR hI 997) (fun r τ h => ?_), fun n15 => ⟨?_, rfl⟩⟩⟩⟩⟩⟩⟩⟩⟩⟩⟩⟩⟩⟩⟩⟩⟩
      all_goals first | (rw [e]; simp [*]; done) | (obtain ⟨rfl, rfl⟩ := h; exact ⟨by rw [e]; simp [*], rfl⟩)
  refine key _ ?_ rfl
  have hz : ∀ x : Int, -1000000 ≤ x ∧ x ≤ 1000000 → rg x := fun x h => ⟨by omega, by omega⟩
  apply hz
  repeat' split
  all_goals omega
