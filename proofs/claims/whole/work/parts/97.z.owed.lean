/-! ===== AT THE START; AND WHAT IS OWED OUT OF THE PAIRS ===== -/
theorem inv_0 (L : Nat) (X : Nat → Int32) (hL : L ≤ 3072) : Inv (mem0 L X) := by
  have z : ∀ a i, a ≠ 0 → a ≠ 1 → ¬ (a = 20 ∧ i = 5) → ¬ (a = 64 ∧ i = 42) → mem0 L X a i = 0 := fun a i h0 h1 h2 h3 => by
    unfold mem0; rw [if_neg h0, if_neg h1, if_neg h2, if_neg h3]
  have zz : ∀ a i, a ≠ 0 → a ≠ 1 → a ≠ 20 → a ≠ 64 → mem0 L X a i = 0 := fun a i h0 h1 h2 h3 => z a i h0 h1 (fun q => h2 q.1) (fun q => h3 q.1)
  have z6 : ∀ i, i ≠ 42 → mem0 L X 64 i = 0 := fun i h => z 64 i (by decide) (by decide) (fun q => absurd q.1 (by decide)) (fun q => h q.2)
  have s0 : ∀ n, sumI (fun _ => 0) n = 0 := fun n => by
    induction n with
    | zero => rfl
    | succ n ih => show sumI (fun _ => 0) n + 0 = 0; omega
  have e81 : mem0 L X 81 = fun _ => 0 := funext fun i => zz 81 i (by decide) (by decide) (by decide) (by decide)
  have e38 : mem0 L X 38 = fun _ => 0 := funext fun i => zz 38 i (by decide) (by decide) (by decide) (by decide)
  have t0 := z6 37 (by decide); have p0 := z6 38 (by decide); have q0 := z6 39 (by decide); have r0 := z6 40 (by decide)
  refine ⟨⟨⟨?_, ?_, ?_, ?_⟩, ⟨⟨?_, ?_, ?_, ?_⟩, ?_, ?_, ?_, ?_, ?_, ?_⟩, ?_, ?_⟩, ⟨⟨?_, ?_, ?_⟩, ⟨?_, ?_⟩, ⟨?_, ?_, ?_, ?_⟩, ?_⟩, ⟨?_, ?_⟩, ⟨?_, ?_, ?_⟩, ⟨?_, ?_, ?_, ?_⟩⟩
  · rw [zz 12 1 (by decide) (by decide) (by decide) (by decide), z6 2 (by decide)]
  · rw [z6 2 (by decide)]; decide
  · rw [z6 2 (by decide)]; decide
  · intro i h0 h1; rw [z6 2 (by decide)] at h1; omega
  · rw [zz 15 0 (by decide) (by decide) (by decide) (by decide), t0]
  · rw [zz 15 1 (by decide) (by decide) (by decide) (by decide), p0]
  · rw [zz 15 2 (by decide) (by decide) (by decide) (by decide), q0]
  · rw [zz 15 3 (by decide) (by decide) (by decide) (by decide), r0]
  · rw [t0, p0, q0, r0]; decide
  · rw [t0, p0]; exact ⟨fun q => absurd q (by decide), fun q => absurd q (by decide)⟩
  · intro t h0 h1; rw [t0] at h1; omega
  · intro t h0 h1; rw [p0] at h1; omega
  · intro t h0 h1; rw [q0] at h1; omega
  · intro t h0 h1; rw [r0] at h1; omega
  · rw [e38, e81]
    exact ⟨⟨rfl, rfl, rfl⟩, fun _ _ _ => ⟨rfl, rfl, rfl, rfl⟩, fun _ _ _ => rfl, fun _ _ _ => rfl, fun i h0 h1 => absurd h1 (by show ¬ i < (0 : Int); omega)⟩
  · rw [e81, t0, p0]
    refine ⟨fun _ _ _ => Int.le_refl _, fun _ _ _ => (by show (0 : Int) < 2 ^ Int.toNat 0; decide), ?_, ?_, fun _ _ _ => (by show (0 : Int) ≤ 99; decide), (by decide), (by decide), fun k h0 h1 => absurd h1 (by show ¬ k < (0 : Int); omega), (by decide), fun i h0 h1 => absurd h1 (by show ¬ i < (0 : Int); omega)⟩
    · rw [s0, s0]; decide
    · rw [s0]; decide
  · rw [zz 41 2 (by decide) (by decide) (by decide) (by decide), z6 45 (by decide)]; decide
  · rw [zz 41 1 (by decide) (by decide) (by decide) (by decide)]; decide
  · intro j h0 h1; rw [z6 45 (by decide)] at h1; omega
  · rw [zz 11 13 (by decide) (by decide) (by decide) (by decide), z6 63 (by decide)]; exact ⟨rfl, Or.inl rfl⟩
  · intro q; rw [z6 63 (by decide)] at q; exact absurd q (by decide)
  · rw [zz 55 8 (by decide) (by decide) (by decide) (by decide), z6 55 (by decide)]; decide
  · rw [zz 55 9 (by decide) (by decide) (by decide) (by decide), z6 60 (by decide)]; decide
  · intro k h0 h1; rw [z6 55 (by decide)] at h1; omega
  · intro k h0 h1; rw [z6 60 (by decide)] at h1; omega
  · have r : ∀ a, a ≠ 0 → a ≠ 1 → a ≠ 20 → a ≠ 64 → RG (mem0 L X a) := fun a h0 h1 h2 h3 i => by rw [zz a i h0 h1 h2 h3]; decide
    exact ⟨r 38 (by decide) (by decide) (by decide) (by decide), r 81 (by decide) (by decide) (by decide) (by decide), r 42 (by decide) (by decide) (by decide) (by decide), r 90 (by decide) (by decide) (by decide) (by decide), r 43 (by decide) (by decide) (by decide) (by decide), r 99 (by decide) (by decide) (by decide) (by decide)⟩
  · rw [zz 29 3 (by decide) (by decide) (by decide) (by decide), z6 27 (by decide)]; decide
  · intro k h0 h1; rw [z6 27 (by decide)] at h1; omega
  · rw [z 20 4 (by decide) (by decide) (by decide) (by decide), z6 13 (by decide)]; decide
  · have e1 : mem0 L X 20 5 = -1 := rfl
    have e2 : mem0 L X 64 42 = -1 := rfl
    rw [e1, e2, z6 13 (by decide)]; decide
  · intro n h0 h1; rw [z6 13 (by decide)] at h1; omega
  · rw [zz 11 14 (by decide) (by decide) (by decide) (by decide), z6 41 (by decide)]; decide
  · exact z6 43 (by decide)
  · intro i; show rg (X i.toNat).toInt; exact ⟨Int32.le_toInt _, Int32.toInt_le _⟩
  · have e1 : mem0 L X 0 0 = Int.ofNat L := rfl
    rw [e1]
    exact ⟨⟨Int.ofNat_nonneg _, by show ((L : Nat) : Int) ≤ 3072; omega⟩, fun i => by rw [zz 40 i (by decide) (by decide) (by decide) (by decide)]; decide⟩
theorem owed_of (H : Pairs) : Owed := fun L X hL => law_loop H (L := Int.ofNat L) (L + 1) 0 vU vU (mem0 L X) (inv_0 L X hL) rfl (Int.le_refl _) (Int.ofNat_nonneg _) (Int.le_refl _) (by show 6 * (0 : Int) ≤ 0; decide) (by show (((L : Nat) : Int) - 0).toNat < L + 1; omega)
