/-! ===== CASES: what is found and claimed ===== -/
theorem c_found : ∀ (a b : Int) (σ : Mem), Inv σ → rg a → rg b → Pair mF_found mR_found [aI a, aI b] σ := by
  intro a b σ hI ha hb
  obtain ⟨⟨m1, m2, m3, m4⟩, ⟨n1, n2, n3, n4⟩, -⟩ := hI.1.2.1
  obtain ⟨⟨v1, v2, v3⟩, ⟨v4, v5, v6⟩, v7, v8⟩ := hI.2.1.2.2.1
  by_cases hx : ((0 ≤ a ∧ a < σ 64 37) ∧ (0 ≤ b ∧ b ≤ 10)) ∧ σ 64 55 < 12
  · obtain ⟨⟨x1, x2⟩, x3⟩ := hx
    refine bF_found_in (d := 997) ⟨ha, ⟨by omega, by omega⟩, fun _ => ⟨hb, fun q => absurd q (by omega), fun _ => ⟨fun _ => bEd_addFound_in (d := 997) ⟨⟨by omega, by omega⟩, fun _ => ⟨by omega, ?_⟩, fun q => absurd q (by omega)⟩, fun q => absurd q (by omega)⟩⟩, fun q => absurd (show 0 ≤ a ∧ a < σ 15 0 by omega) q⟩
    rw [v1]
    generalize hn : σ 64 55 = n at *
    have e64 : (ups (ups (ups σ 56 n a) 57 n b) 55 8 (n + 1)) 64 = σ 64 := by rw [ups_ne (by decide), ups_ne (by decide), ups_ne (by decide)]
    have e81 : (ups (ups (ups σ 56 n a) 57 n b) 55 8 (n + 1)) 81 = σ 81 := by rw [ups_ne (by decide), ups_ne (by decide), ups_ne (by decide)]
    refine ⟨⟨by rw [ups_ne (by decide), ups_ne (by decide), ups_ne (by decide)], by rw [ups_ne (by decide), ups_ne (by decide), ups_ne (by decide)]⟩, bR_found_in (d := 996) ⟨ha, by unfold mOK; rw [e64, e81]; exact hI.mOK, fun _ => ⟨hb, fun _ => ⟨by rw [e64, hn]; exact ⟨by omega, by omega⟩, fun _ => ⟨by rw [e64, hn]; omega, by rw [e64, hn]; omega, ?_⟩, fun q => absurd q (by rw [e64, hn]; omega)⟩, fun q => absurd x2 q⟩, fun q => absurd (by rw [e64]; exact x1) q⟩⟩
    rw [e64, hn]
    refine ⟨⟨rfl, ⟨by omega, by omega⟩⟩, ⟨?_, ?_⟩, ?_⟩
    · rw [ups_ne (by decide), ups_ne (by decide), ups_ne (by decide), ups_ne (by decide), ups_ne (by decide), ups_ne (by decide)]
    · rw [ups_ne (by decide), ups_ne (by decide), ups_ne (by decide), ups_ne (by decide), ups_ne (by decide), ups_ne (by decide)]
    · have hs : Sm σ (ups (ups (ups (ups (ups (ups σ 56 n a) 57 n b) 55 8 (n + 1)) 93 n a) 94 n b) 64 55 (n + 1)) [55, 56, 57, 93, 94, 64] [55] := (((((Sm.refl.ups rfl (Or.inl (by decide))).ups rfl (Or.inl (by decide))).ups rfl (Or.inl (by decide))).ups rfl (Or.inl (by decide))).ups rfl (Or.inl (by decide))).ups rfl (Or.inr rfl)
      refine hI.evid (hs.mono (by decide) (by decide)) ?_
      have g55 : ∀ j, (ups (ups (ups (ups (ups (ups σ 56 n a) 57 n b) 55 8 (n + 1)) 93 n a) 94 n b) 64 55 (n + 1)) 55 j = if j = 8 then n + 1 else σ 55 j := fun j => by
        rw [ups_ne (by decide), ups_ne (by decide), ups_ne (by decide)]
        by_cases e : j = 8
        · rw [if_pos e, e, ups_hit]
        · rw [if_neg e, ups_fn e, ups_ne (by decide), ups_ne (by decide)]
      have g56 : ∀ j, (ups (ups (ups (ups (ups (ups σ 56 n a) 57 n b) 55 8 (n + 1)) 93 n a) 94 n b) 64 55 (n + 1)) 56 j = if j = n then a else σ 56 j := fun j => by
        rw [ups_ne (by decide), ups_ne (by decide), ups_ne (by decide), ups_ne (by decide), ups_ne (by decide)]
        by_cases e : j = n
        · rw [if_pos e, e, ups_hit]
        · rw [if_neg e, ups_fn e]
      have g57 : ∀ j, (ups (ups (ups (ups (ups (ups σ 56 n a) 57 n b) 55 8 (n + 1)) 93 n a) 94 n b) 64 55 (n + 1)) 57 j = if j = n then b else σ 57 j := fun j => by
        rw [ups_ne (by decide), ups_ne (by decide), ups_ne (by decide), ups_ne (by decide)]
        by_cases e : j = n
        · rw [if_pos e, e, ups_hit]
        · rw [if_neg e, ups_fn e, ups_ne (by decide)]
      have g93 : ∀ j, (ups (ups (ups (ups (ups (ups σ 56 n a) 57 n b) 55 8 (n + 1)) 93 n a) 94 n b) 64 55 (n + 1)) 93 j = if j = n then a else σ 93 j := fun j => by
        rw [ups_ne (by decide), ups_ne (by decide)]
        by_cases e : j = n
        · rw [if_pos e, e, ups_hit]
        · rw [if_neg e, ups_fn e, ups_ne (by decide), ups_ne (by decide), ups_ne (by decide)]
      have g94 : ∀ j, (ups (ups (ups (ups (ups (ups σ 56 n a) 57 n b) 55 8 (n + 1)) 93 n a) 94 n b) 64 55 (n + 1)) 94 j = if j = n then b else σ 94 j := fun j => by
        rw [ups_ne (by decide)]
        by_cases e : j = n
        · rw [if_pos e, e, ups_hit]
        · rw [if_neg e, ups_fn e, ups_ne (by decide), ups_ne (by decide), ups_ne (by decide), ups_ne (by decide)]
      have g64 : ∀ j, (ups (ups (ups (ups (ups (ups σ 56 n a) 57 n b) 55 8 (n + 1)) 93 n a) 94 n b) 64 55 (n + 1)) 64 j = if j = 55 then n + 1 else σ 64 j := fun j => by
        by_cases e : j = 55
        · rw [if_pos e, e, ups_hit]
        · rw [if_neg e, ups_fn e, ups_ne (by decide), ups_ne (by decide), ups_ne (by decide), ups_ne (by decide), ups_ne (by decide)]
      refine ⟨⟨?_, ?_, ?_⟩, ⟨?_, ?_, ?_⟩, fun k k0 k1 => ?_, fun k k0 k1 => ?_⟩
      · rw [g55, g64, if_pos rfl, if_pos rfl]
      · rw [g64, if_pos rfl]; omega
      · rw [g64, if_pos rfl]; omega
      · rw [g55, g64, if_neg (by decide), if_neg (by decide)]; exact v4
      · rw [g64, if_neg (by decide)]; exact v5
      · rw [g64, if_neg (by decide)]; exact v6
      · rw [g64, if_pos rfl] at k1
        by_cases e : k = n
        · rw [g56, g57, g93, g94, g64 37, if_pos e, if_pos e, if_pos e, if_pos e, if_neg (show ¬ (37 : Int) = 55 by decide)]; exact ⟨⟨rfl, rfl⟩, x1, x2⟩
        · rw [g56, g57, g93, g94, g64 37, if_neg e, if_neg e, if_neg e, if_neg e, if_neg (show ¬ (37 : Int) = 55 by decide)]; exact v7 k k0 (by omega)
      · rw [g64, if_neg (by decide)] at k1
        rw [hs.1 58 rfl, hs.1 59 rfl, hs.1 60 rfl, hs.1 61 rfl, hs.1 95 rfl, hs.1 96 rfl, hs.1 97 rfl, hs.1 98 rfl, hs.2 37 rfl, hs.2 38 rfl]
        exact v8 k k0 k1
  · refine pair_q (v := -1) hI (by decide) ?_ ?_
    · exact bF_found_in (d := 997) ⟨ha, ⟨by omega, by omega⟩, fun h1 => ⟨hb, fun _ => ⟨rfl, rfl⟩, fun h2 => ⟨fun h3 => bEd_addFound_in (d := 997) ⟨⟨by omega, by omega⟩, fun h4 => absurd ⟨⟨⟨h1.1, by omega⟩, h2, h3⟩, by omega⟩ hx, fun _ => ⟨rfl, rfl⟩⟩, fun _ => ⟨rfl, rfl⟩⟩⟩, fun _ => ⟨rfl, rfl⟩⟩
    · exact bR_found_in (d := 996) ⟨ha, hI.mOK, fun h1 => ⟨hb, fun h2 => ⟨⟨by omega, by omega⟩, fun h3 => absurd ⟨⟨h1, h2⟩, by omega⟩ hx, fun _ => ⟨rfl, rfl⟩⟩, fun _ => ⟨rfl, rfl⟩⟩, fun _ => ⟨rfl, rfl⟩⟩
