/-! ===== WHAT EACH PART OF Inv STANDS ON ===== -/
theorem ups_fn {σ : Mem} {a : Nat} {i v j : Int} (h : j ≠ i) : ups σ a i v a j = σ a j := by unfold ups; rw [su_eq]; exact if_neg h
theorem ups_hit {σ : Mem} {a : Nat} {i v : Int} : ups σ a i v a i = v := by unfold ups; rw [su_eq]; exact if_pos rfl
theorem TapeI.cg {σ τ : Mem} (h : TapeI σ) (h1 : τ 12 1 = σ 12 1) (h2 : τ 64 2 = σ 64 2) (h3 : τ 13 = σ 13) (h4 : τ 65 = σ 65) : TapeI τ := by
  unfold TapeI; rw [h1, h2, h3, h4]; exact h
/-- the market's cells -/
def SameM (σ τ : Mem) : Prop := (τ 15 = σ 15 ∧ τ 16 = σ 16) ∧ (τ 64 37 = σ 64 37 ∧ τ 64 38 = σ 64 38 ∧ τ 64 39 = σ 64 39 ∧ τ 64 40 = σ 64 40) ∧ (τ 82 = σ 82 ∧ τ 83 = σ 83 ∧ τ 84 = σ 84 ∧ τ 85 = σ 85 ∧ τ 86 = σ 86 ∧ τ 87 = σ 87 ∧ τ 88 = σ 88 ∧ τ 89 = σ 89)
theorem MarkI.cg {σ τ : Mem} (h : MarkI σ) (hs : SameM σ τ) : MarkI τ := by
  obtain ⟨⟨a1, a2⟩, ⟨b1, b2, b3, b4⟩, c1, c2, c3, c4, c5, c6, c7, c8⟩ := hs
  unfold MarkI; rw [a1, a2, b1, b2, b3, b4, c1, c2, c3, c4, c5, c6, c7, c8]; exact h
theorem PastI.cg {σ τ : Mem} (h : PastI σ) (h1 : τ 41 = σ 41) (h2 : τ 64 45 = σ 64 45) (h3 : τ 42 = σ 42) (h4 : τ 90 = σ 90) (h5 : τ 64 37 = σ 64 37) (h6 : τ 64 38 = σ 64 38) : PastI τ := by
  unfold PastI; rw [h1, h2, h3, h4, h5, h6]; exact h
theorem ImgI.cg {σ τ : Mem} (h : ImgI σ) (h1 : τ 11 13 = σ 11 13) (h2 : τ 64 63 = σ 64 63) (h3 : τ 43 = σ 43) (h4 : τ 99 = σ 99) (h5 : τ 64 37 = σ 64 37) (h6 : τ 64 38 = σ 64 38) : ImgI τ := by
  unfold ImgI; rw [h1, h2, h3, h4, h5, h6]; exact h
theorem EvidI.cg {σ τ : Mem} (h : EvidI σ) (h0 : τ 55 = σ 55) (h1 : τ 64 55 = σ 64 55) (h2 : τ 64 60 = σ 64 60) (h3 : τ 56 = σ 56 ∧ τ 57 = σ 57 ∧ τ 58 = σ 58 ∧ τ 59 = σ 59 ∧ τ 60 = σ 60 ∧ τ 61 = σ 61) (h4 : τ 93 = σ 93 ∧ τ 94 = σ 94 ∧ τ 95 = σ 95 ∧ τ 96 = σ 96 ∧ τ 97 = σ 97 ∧ τ 98 = σ 98) (h5 : τ 64 37 = σ 64 37) (h6 : τ 64 38 = σ 64 38) : EvidI τ := by
  obtain ⟨a1, a2, a3, a4, a5, a6⟩ := h3
  obtain ⟨b1, b2, b3, b4, b5, b6⟩ := h4
  unfold EvidI; rw [h0, h1, h2, a1, a2, a3, a4, a5, a6, b1, b2, b3, b4, b5, b6, h5, h6]; exact h
theorem PlanI.cg {σ τ : Mem} (h : PlanI σ) (h1 : τ 29 3 = σ 29 3) (h2 : τ 64 27 = σ 64 27) (h3 : τ 30 = σ 30) (h4 : τ 36 = σ 36) (h5 : τ 79 = σ 79) (h6 : τ 80 = σ 80) : PlanI τ := by
  unfold PlanI; rw [h1, h2, h3, h4, h5, h6]; exact h
theorem TasteI.cg {σ τ : Mem} (h : TasteI σ) (h1 : τ 20 4 = σ 20 4) (h2 : τ 20 5 = σ 20 5) (h3 : τ 64 13 = σ 64 13) (h4 : τ 64 42 = σ 64 42) (h5 : τ 21 = σ 21 ∧ τ 27 = σ 27) (h6 : τ 66 = σ 66 ∧ τ 67 = σ 67 ∧ τ 69 = σ 69 ∧ τ 70 = σ 70 ∧ τ 71 = σ 71 ∧ τ 72 = σ 72) : TasteI τ := by
  obtain ⟨a1, a2⟩ := h5
  obtain ⟨b1, b2, b3, b4, b5, b6⟩ := h6
  unfold TasteI TextC TextM; rw [h1, h2, h3, h4, a1, a2, b1, b2, b3, b4, b5, b6]; exact h
theorem RestI.cg {σ τ : Mem} (h : RestI σ) (h1 : τ 11 14 = σ 11 14) (h2 : τ 64 41 = σ 64 41) (h3 : τ 64 43 = σ 64 43) (h4 : τ 1 = σ 1) (h5 : τ 0 0 = σ 0 0) (h6 : RG (τ 40)) : RestI τ := by
  obtain ⟨a, b, c, d, -⟩ := h
  unfold RestI; rw [h1, h2, h3, h4, h5]; exact ⟨a, b, c, d, h6⟩
/-- where only work in progress lies -/
def scrL : List Nat := [0, 11, 12, 64, 17, 18, 19, 28, 39, 44, 45, 46, 47, 48, 49, 50, 51, 52, 53, 54, 62, 63, 73, 74, 75, 76, 77, 78, 91, 92, 100]
def keep64 : List Int := [2, 13, 27, 37, 38, 39, 40, 41, 42, 43, 45, 55, 60, 63]
theorem Inv.scr {σ τ : Mem} (h : Inv σ) (hf : Fr σ τ scrL) (h11 : τ 11 13 = σ 11 13 ∧ τ 11 14 = σ 11 14) (h12 : τ 12 1 = σ 12 1) (h64 : ∀ j ∈ keep64, τ 64 j = σ 64 j) (h0 : τ 0 0 = σ 0 0) : Inv τ := by
  obtain ⟨⟨a1, a2, a3, a4⟩, ⟨b1, b2, b3, b4⟩, c1, d1, e1⟩ := h
  have k : ∀ j, keep64.contains j = true → τ 64 j = σ 64 j := fun j hj => h64 j (List.contains_iff_mem.mp hj)
  have f : ∀ a, scrL.contains a = false → τ a = σ a := fun a ha => hf a (fun q => by rw [List.contains_iff_mem.mpr q] at ha; cases ha)
  refine ⟨⟨a1.cg h12 (k 2 rfl) (f 13 rfl) (f 65 rfl), a2.cg ⟨⟨f 15 rfl, f 16 rfl⟩, ⟨k 37 rfl, k 38 rfl, k 39 rfl, k 40 rfl⟩, f 82 rfl, f 83 rfl, f 84 rfl, f 85 rfl, f 86 rfl, f 87 rfl, f 88 rfl, f 89 rfl⟩, ?_, ?_⟩, ⟨b1.cg (f 41 rfl) (k 45 rfl) (f 42 rfl) (f 90 rfl) (k 37 rfl) (k 38 rfl), b2.cg h11.1 (k 63 rfl) (f 43 rfl) (f 99 rfl) (k 37 rfl) (k 38 rfl), b3.cg (f 55 rfl) (k 55 rfl) (k 60 rfl) ⟨f 56 rfl, f 57 rfl, f 58 rfl, f 59 rfl, f 60 rfl, f 61 rfl⟩ ⟨f 93 rfl, f 94 rfl, f 95 rfl, f 96 rfl, f 97 rfl, f 98 rfl⟩ (k 37 rfl) (k 38 rfl), ?_⟩, c1.cg (by rw [f 29 rfl]) (k 27 rfl) (f 30 rfl) (f 36 rfl) (f 79 rfl) (f 80 rfl), d1.cg (by rw [f 20 rfl]) (by rw [f 20 rfl]) (k 13 rfl) (k 42 rfl) ⟨f 21 rfl, f 27 rfl⟩ ⟨f 66 rfl, f 67 rfl, f 69 rfl, f 70 rfl, f 71 rfl, f 72 rfl⟩, e1.cg h11.2 (k 41 rfl) (k 43 rfl) (f 1 rfl) h0 (by rw [f 40 rfl]; exact e1.2.2.2.2)⟩
  · rw [f 38 rfl, f 81 rfl]; exact a3
  · rw [f 81 rfl, k 37 rfl, k 38 rfl]; exact a4
  · unfold CellI; rw [f 38 rfl, f 81 rfl, f 42 rfl, f 90 rfl, f 43 rfl, f 99 rfl]; exact b4
/-- a question: nothing is changed -/
theorem pair_q {F R : Nat} {as : List AV} {σ : Mem} {v : Int} (hI : Inv σ) (hv : rg v) (hF : Cl 999 F (aR 11 :: as) σ (fun r τ => r = rI v ∧ τ = σ)) (hR : Cl 999 R (aR 64 :: as) σ (fun r τ => r = rI v ∧ τ = σ)) : Pair F R as σ := by
  refine Cl.mono hF (fun r1 τ2 h => ?_)
  obtain ⟨rfl, rfl⟩ := h
  refine ⟨⟨rfl, rfl⟩, Cl.mono hR (fun r4 τ5 g => ?_)⟩
  obtain ⟨rfl, rfl⟩ := g
  exact ⟨⟨rfl, hv⟩, ⟨rfl, rfl⟩, hI⟩
/-- a question with work in progress -/
theorem pair_w {F R : Nat} {as : List AV} {σ : Mem} {v : Int} (hv : rg v) (hF : Cl 999 F (aR 11 :: as) σ (fun r τ => r = rI v ∧ (τ 0 = σ 0 ∧ τ 1 = σ 1) ∧ Inv τ ∧ Cl 999 R (aR 64 :: as) τ (fun r τ' => r = rI v ∧ (τ' 0 = σ 0 ∧ τ' 1 = σ 1) ∧ Inv τ'))) : Pair F R as σ := by
  refine Cl.mono hF (fun r1 τ2 h => ?_)
  obtain ⟨rfl, h1, h2, h3⟩ := h
  refine ⟨h1, Cl.mono h3 (fun r4 τ5 g => ?_)⟩
  obtain ⟨rfl, g1, g2⟩ := g
  exact ⟨⟨rfl, hv⟩, g1, g2⟩
/-- what the market allows, as the rows ask it -/
theorem Inv.cOK {σ : Mem} (h : Inv σ) : cOK σ 38 := by
  have h1 := h.1.2.1.1; have h2 := h.1.2.1.2.1
  refine ⟨by omega, by omega, by omega, by omega, h.2.1.2.2.2.1⟩
theorem Inv.mOK {σ : Mem} (h : Inv σ) : mOK σ := by
  have h2 := h.1.2.1.2.1
  exact ⟨h2.1, h2.2.1, h2.2.2.1, h2.2.2.2, h.2.1.2.2.2.2.1⟩
