/-! ===== CASES: what only asks, or sets one number ===== -/
/-- the same but at these addresses, and of the reference's own numbers but these -/
def Sm (σ τ : Mem) (S : List Nat) (J : List Int) : Prop := (∀ a, S.contains a = false → τ a = σ a) ∧ ∀ j, J.contains j = false → τ 64 j = σ 64 j
theorem Sm.refl {σ : Mem} {S : List Nat} {J : List Int} : Sm σ σ S J := ⟨fun _ _ => rfl, fun _ _ => rfl⟩
theorem Sm.ups {σ τ : Mem} {S : List Nat} {J : List Int} {a : Nat} {i v : Int} (h : Sm σ τ S J) (ha : S.contains a = true) (hj : a ≠ 64 ∨ J.contains i = true) : Sm σ (ups τ a i v) S J := by
  refine ⟨fun b hb => ?_, fun j hj2 => ?_⟩
  · rw [ups_ne (fun e => by rw [e, ha] at hb; cases hb)]; exact h.1 b hb
  · by_cases e : a = 64
    · subst e
      rcases hj with hj | hj
      · exact absurd rfl hj
      · rw [ups_fn (fun e => by rw [e, hj] at hj2; cases hj2)]; exact h.2 j hj2
    · rw [ups_ne (fun q => e q.symm)]; exact h.2 j hj2
theorem Sm.su {σ τ : Mem} {S : List Nat} {J : List Int} {a : Nat} {c : Int → Int} (h : Sm σ τ S J) (ha : S.contains a = true) (h6 : a ≠ 64) : Sm σ (su τ a c) S J := by
  refine ⟨fun b hb => ?_, fun j hj => ?_⟩
  · rw [su_ne (fun e => by rw [e, ha] at hb; cases hb)]; exact h.1 b hb
  · rw [su_ne (fun q => h6 q.symm)]; exact h.2 j hj
theorem Inv.tape {σ τ : Mem} (h : Inv σ) (hs : Sm σ τ [12, 13, 64, 65] [2]) (hT : TapeI τ) : Inv τ := by
  obtain ⟨⟨a1, a2, a3, a4⟩, ⟨b1, b2, b3, b4⟩, c1, d1, e1⟩ := h
  obtain ⟨f, k⟩ := hs
  refine ⟨⟨hT, a2.cg ⟨⟨f 15 rfl, f 16 rfl⟩, ⟨k 37 rfl, k 38 rfl, k 39 rfl, k 40 rfl⟩, f 82 rfl, f 83 rfl, f 84 rfl, f 85 rfl, f 86 rfl, f 87 rfl, f 88 rfl, f 89 rfl⟩, ?_, ?_⟩, ⟨b1.cg (f 41 rfl) (k 45 rfl) (f 42 rfl) (f 90 rfl) (k 37 rfl) (k 38 rfl), b2.cg (by rw [f 11 rfl]) (k 63 rfl) (f 43 rfl) (f 99 rfl) (k 37 rfl) (k 38 rfl), b3.cg (f 55 rfl) (k 55 rfl) (k 60 rfl) ⟨f 56 rfl, f 57 rfl, f 58 rfl, f 59 rfl, f 60 rfl, f 61 rfl⟩ ⟨f 93 rfl, f 94 rfl, f 95 rfl, f 96 rfl, f 97 rfl, f 98 rfl⟩ (k 37 rfl) (k 38 rfl), ?_⟩, c1.cg (by rw [f 29 rfl]) (k 27 rfl) (f 30 rfl) (f 36 rfl) (f 79 rfl) (f 80 rfl), d1.cg (by rw [f 20 rfl]) (by rw [f 20 rfl]) (k 13 rfl) (k 42 rfl) ⟨f 21 rfl, f 27 rfl⟩ ⟨f 66 rfl, f 67 rfl, f 69 rfl, f 70 rfl, f 71 rfl, f 72 rfl⟩, e1.cg (by rw [f 11 rfl]) (k 41 rfl) (k 43 rfl) (f 1 rfl) (by rw [f 0 rfl]) (by rw [f 40 rfl]; exact e1.2.2.2.2)⟩
  · rw [f 38 rfl, f 81 rfl]; exact a3
  · rw [f 81 rfl, k 37 rfl, k 38 rfl]; exact a4
  · unfold CellI; rw [f 38 rfl, f 81 rfl, f 42 rfl, f 90 rfl, f 43 rfl, f 99 rfl]; exact b4
/-- the theft's number, and the taste that is held -/
theorem Inv.held {σ τ : Mem} (h : Inv σ) (hs : Sm σ τ [11, 20, 64] [41, 42]) (h1 : τ 11 13 = σ 11 13) (h2 : τ 20 4 = σ 20 4) (hT : τ 20 5 = τ 64 42 ∧ -1 ≤ τ 64 42 ∧ τ 64 42 < σ 64 13) (hR : τ 11 14 = τ 64 41 ∧ 0 ≤ τ 64 41 ∧ τ 64 41 ≤ 99) : Inv τ := by
  obtain ⟨⟨a1, a2, a3, a4⟩, ⟨b1, b2, b3, b4⟩, c1, ⟨d1, d2, d3⟩, ⟨e1, e2, e3, e4⟩⟩ := h
  obtain ⟨f, k⟩ := hs
  refine ⟨⟨a1.cg (by rw [f 12 rfl]) (k 2 rfl) (f 13 rfl) (f 65 rfl), a2.cg ⟨⟨f 15 rfl, f 16 rfl⟩, ⟨k 37 rfl, k 38 rfl, k 39 rfl, k 40 rfl⟩, f 82 rfl, f 83 rfl, f 84 rfl, f 85 rfl, f 86 rfl, f 87 rfl, f 88 rfl, f 89 rfl⟩, ?_, ?_⟩, ⟨b1.cg (f 41 rfl) (k 45 rfl) (f 42 rfl) (f 90 rfl) (k 37 rfl) (k 38 rfl), b2.cg h1 (k 63 rfl) (f 43 rfl) (f 99 rfl) (k 37 rfl) (k 38 rfl), b3.cg (f 55 rfl) (k 55 rfl) (k 60 rfl) ⟨f 56 rfl, f 57 rfl, f 58 rfl, f 59 rfl, f 60 rfl, f 61 rfl⟩ ⟨f 93 rfl, f 94 rfl, f 95 rfl, f 96 rfl, f 97 rfl, f 98 rfl⟩ (k 37 rfl) (k 38 rfl), ?_⟩, c1.cg (by rw [f 29 rfl]) (k 27 rfl) (f 30 rfl) (f 36 rfl) (f 79 rfl) (f 80 rfl), ⟨?_, ?_, ?_⟩, ⟨hR, ?_, ?_, ?_⟩⟩
  · rw [f 38 rfl, f 81 rfl]; exact a3
  · rw [f 81 rfl, k 37 rfl, k 38 rfl]; exact a4
  · unfold CellI; rw [f 38 rfl, f 81 rfl, f 42 rfl, f 90 rfl, f 43 rfl, f 99 rfl]; exact b4
  · rw [h2, k 13 rfl]; exact d1
  · rw [k 13 rfl]; exact hT
  · unfold TextC TextM; rw [k 13 rfl, f 21 rfl, f 27 rfl, f 66 rfl, f 67 rfl, f 69 rfl, f 70 rfl, f 71 rfl, f 72 rfl]; exact d3
  · rw [k 43 rfl]; exact e2
  · rw [f 1 rfl]; exact e3
  · rw [f 0 rfl, f 40 rfl]; exact e4
theorem c_end : ∀ (a : Int) (σ : Mem), Inv σ → rg a → Pair mF_end mR_end [aI a] σ := by
  intro a σ hI ha
  obtain ⟨t1, t2, t3, t4⟩ := hI.1.1
  have no : ∀ {x : Int}, x = 0 → (a < 0 ∨ σ 64 2 < a) → Cl 999 mR_end [aR 64, aI a] σ (fun r4 τ5 => oI r4 (fun w6 => (x = w6 ∧ rg x) ∧ (τ5 0 = σ 0 ∧ τ5 1 = σ 1) ∧ Inv τ5)) := fun {x} hx hn => by
    subst hx
    exact bR_end_in (d := 998) ⟨ha, fun _ => ⟨⟨rfl, by decide⟩, ⟨rfl, rfl⟩, hI⟩, fun q => ⟨⟨by omega, by omega⟩, fun z => absurd z (by omega), fun _ => ⟨⟨rfl, by decide⟩, ⟨rfl, rfl⟩, hI⟩⟩⟩
  refine bF_end_in (d := 998) ⟨ha, fun h => ⟨⟨rfl, rfl⟩, no rfl (Or.inl h)⟩, fun h0 => ⟨⟨by omega, by omega⟩, fun h1 => ?_, fun h1 => ⟨⟨rfl, rfl⟩, no rfl (Or.inr (by omega))⟩⟩⟩
  have e : (ups σ 12 1 a) 64 = σ 64 := ups_ne (by decide)
  refine ⟨⟨ups_ne (by decide), ups_ne (by decide)⟩, bR_end_in (d := 998) ⟨ha, fun q => absurd q (by omega), fun _ => ⟨by rw [e]; exact ⟨by omega, by omega⟩, fun _ => ⟨⟨rfl, by decide⟩, ⟨?_, ?_⟩, ?_⟩, fun q => absurd q (by rw [e]; omega)⟩⟩⟩
  · rw [ups_ne (by decide), ups_ne (by decide)]
  · rw [ups_ne (by decide), ups_ne (by decide)]
  · refine hI.tape ((Sm.refl.ups rfl (Or.inl (by decide))).ups rfl (Or.inr rfl)) ⟨?_, ?_, ?_, ?_⟩
    · rw [ups_hit, ups_ne (by decide), ups_hit]
    · rw [ups_hit]; exact h0
    · rw [ups_hit]; omega
    · intro i i0 i1
      rw [ups_hit] at i1
      rw [ups_ne (by decide), ups_ne (by decide), ups_ne (by decide), ups_ne (by decide)]
      exact t4 i i0 (by omega)
theorem c_theft : ∀ (a : Int) (σ : Mem), Inv σ → rg a → Pair mF_theft mR_theft [aI a] σ := by
  intro a σ hI ha
  obtain ⟨⟨t1, t2, t3⟩, t4⟩ := hI.2.2.2.2
  have no : (a < 0 ∨ 99 < a ∨ a = σ 64 41) → Cl 999 mR_theft [aR 64, aI a] σ (fun r4 τ5 => oI r4 (fun w6 => ((0 : Int) = w6 ∧ rg 0) ∧ (τ5 0 = σ 0 ∧ τ5 1 = σ 1) ∧ Inv τ5)) := fun hn =>
    bR_theft_in (d := 997) ⟨ha, fun q => ⟨⟨by omega, by omega⟩, fun z => absurd hn (by omega), fun _ => ⟨⟨rfl, by decide⟩, ⟨rfl, rfl⟩, hI⟩⟩, fun _ => ⟨⟨rfl, by decide⟩, ⟨rfl, rfl⟩, hI⟩⟩
  refine bF_theft_in (d := 998) ⟨ha, fun h => ⟨⟨rfl, rfl⟩, no (Or.inl h)⟩, fun h0 => ⟨fun h => ⟨⟨rfl, rfl⟩, no (Or.inr (Or.inl h))⟩, fun h1 => ⟨⟨by omega, by omega⟩, fun h2 => ?_, fun h2 => ⟨⟨rfl, rfl⟩, no (Or.inr (Or.inr (by omega)))⟩⟩⟩⟩
  have e : (ups σ 11 14 a) 64 = σ 64 := ups_ne (by decide)
  refine ⟨⟨ups_ne (by decide), ups_ne (by decide)⟩, bR_theft_in (d := 997) ⟨ha, fun _ => ⟨by rw [e]; exact ⟨by omega, by omega⟩, fun _ => ⟨⟨rfl, by decide⟩, ⟨?_, ?_⟩, ?_⟩, fun q => absurd q (by rw [e]; omega)⟩, fun q => absurd ⟨h0, h1⟩ q⟩⟩
  · rw [ups_ne (by decide), ups_ne (by decide)]
  · rw [ups_ne (by decide), ups_ne (by decide)]
  · have hT := hI.2.2.2.1.2.1
    refine hI.held ((Sm.refl.ups rfl (Or.inl (by decide))).ups rfl (Or.inr rfl)) ?_ ?_ ⟨?_, ?_, ?_⟩ ⟨?_, ?_, ?_⟩
    · rw [ups_ne (by decide), ups_fn (by decide)]
    · rw [ups_ne (by decide), ups_ne (by decide)]
    · rw [ups_ne (by decide), ups_ne (by decide), ups_fn (by decide), e]; exact hT.1
    · rw [ups_fn (by decide), e]; exact hT.2.1
    · rw [ups_fn (by decide), e]; exact hT.2.2
    · rw [ups_hit, ups_ne (by decide), ups_hit]
    · rw [ups_hit]; exact h0
    · rw [ups_hit]; exact h1
theorem c_taste : ∀ (a : Int) (σ : Mem), Inv σ → rg a → Pair mF_taste mR_taste [aI a] σ := by
  intro a σ hI ha
  obtain ⟨⟨t1, t2, t3⟩, ⟨t4, t5, t6⟩, t7⟩ := hI.2.2.2.1
  have no : (a < -1 ∨ σ 64 13 ≤ a) → Cl 999 mR_taste [aR 64, aI a] σ (fun r4 τ5 => oI r4 (fun w6 => ((0 : Int) = w6 ∧ rg 0) ∧ (τ5 0 = σ 0 ∧ τ5 1 = σ 1) ∧ Inv τ5)) := fun hn =>
    bR_taste_in (d := 997) ⟨ha, ⟨by omega, by omega⟩, fun q => absurd hn (by omega), fun _ => ⟨⟨rfl, by decide⟩, ⟨rfl, rfl⟩, hI⟩⟩
  refine bF_taste_in (d := 998) ⟨ha, fun h => ⟨⟨rfl, rfl⟩, no (Or.inl h)⟩, fun h0 => ⟨⟨by omega, by omega⟩, fun h1 => ?_, fun h1 => ⟨⟨rfl, rfl⟩, no (Or.inr (by omega))⟩⟩⟩
  have e : (ups σ 20 5 a) 64 = σ 64 := ups_ne (by decide)
  refine ⟨⟨ups_ne (by decide), ups_ne (by decide)⟩, bR_taste_in (d := 997) ⟨ha, by rw [e]; exact ⟨by omega, by omega⟩, fun _ => ⟨⟨rfl, by decide⟩, ⟨?_, ?_⟩, ?_⟩, fun q => absurd ⟨h0, by rw [e]; omega⟩ q⟩⟩
  · rw [ups_ne (by decide), ups_ne (by decide)]
  · rw [ups_ne (by decide), ups_ne (by decide)]
  · have hR := hI.2.2.2.2.1
    refine hI.held ((Sm.refl.ups rfl (Or.inl (by decide))).ups rfl (Or.inr rfl)) ?_ ?_ ⟨?_, ?_, ?_⟩ ⟨?_, ?_, ?_⟩
    · rw [ups_ne (by decide), ups_ne (by decide)]
    · rw [ups_ne (by decide), ups_fn (by decide)]
    · rw [ups_hit, ups_ne (by decide), ups_hit]
    · rw [ups_hit]; exact h0
    · rw [ups_hit]; omega
    · rw [ups_ne (by decide), ups_ne (by decide), ups_fn (by decide), e]; exact hR.1
    · rw [ups_fn (by decide), e]; exact hR.2.1
    · rw [ups_fn (by decide), e]; exact hR.2.2
