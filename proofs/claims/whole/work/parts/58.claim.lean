/-! ===== CASE: claim ===== -/
theorem c_claim : ∀ (a b c d : Int) (σ : Mem), Inv σ → rg a → rg b → rg c → rg d → Pair mF_claim mR_claim [aI a, aI b, aI c, aI d] σ := by
  intro a b c d σ hI ha hb hc hd
  obtain ⟨⟨m1, m2, m3, m4⟩, ⟨n1, n2, n3, n4⟩, -⟩ := hI.1.2.1
  obtain ⟨⟨v1, v2, v3⟩, ⟨v4, v5, v6⟩, v7, v8⟩ := hI.2.1.2.2.1
  by_cases hx : ((0 ≤ a ∧ a < σ 64 38) ∧ (0 ≤ b ∧ b < σ 64 37) ∧ (0 ≤ c ∧ c ≤ 99) ∧ (0 ≤ d ∧ d ≤ 9)) ∧ σ 64 60 < 12
  · obtain ⟨⟨x0, x1, x2, x4⟩, x3⟩ := hx
    refine bF_claim_in (d := 996) ⟨ha, hb, ⟨by omega, by omega⟩, ⟨by omega, by omega⟩, fun _ => ⟨hc, fun q => absurd q (by omega), fun _ => ⟨fun q => absurd q (by omega), fun _ => ⟨hd, fun q => absurd q (by omega), fun _ => ⟨fun _ => bEd_addClaim_in (d := 996) ⟨⟨by omega, by omega⟩, fun _ => ⟨by omega, ⟨by omega, by omega⟩, ?_⟩, fun q => absurd q (by omega)⟩, fun q => absurd q (by omega)⟩⟩⟩⟩, fun q => absurd (show 0 ≤ a ∧ a < σ 15 1 ∧ 0 ≤ b ∧ b < σ 15 0 by omega) q⟩
    rw [v4]
    generalize hn : σ 64 60 = n at *
    generalize hlo : max 0 (c - d) = lo
    generalize hhi : c + d = hi
    have e64 : (ups (ups (ups (ups (ups σ 58 n a) 59 n b) 60 n lo) 61 n hi) 55 9 (n + 1)) 64 = σ 64 := by rw [ups_ne (by decide), ups_ne (by decide), ups_ne (by decide), ups_ne (by decide), ups_ne (by decide)]
    have e81 : (ups (ups (ups (ups (ups σ 58 n a) 59 n b) 60 n lo) 61 n hi) 55 9 (n + 1)) 81 = σ 81 := by rw [ups_ne (by decide), ups_ne (by decide), ups_ne (by decide), ups_ne (by decide), ups_ne (by decide)]
    refine ⟨⟨by rw [ups_ne (by decide), ups_ne (by decide), ups_ne (by decide), ups_ne (by decide), ups_ne (by decide)], by rw [ups_ne (by decide), ups_ne (by decide), ups_ne (by decide), ups_ne (by decide), ups_ne (by decide)]⟩, bR_claim_in (d := 996) ⟨ha, by unfold mOK; rw [e64, e81]; exact hI.mOK, fun _ => ⟨hb, fun _ => ⟨hc, fun _ => ⟨hd, fun _ => ⟨by rw [e64, hn]; exact ⟨by omega, by omega⟩, fun _ => ⟨by rw [e64, hn]; omega, by rw [e64, hn]; omega, ⟨by omega, by omega⟩, ?_⟩, fun q => absurd q (by rw [e64, hn]; omega)⟩, fun q => absurd x4 q⟩, fun q => absurd x2 q⟩, fun q => absurd (by rw [e64]; exact x1) q⟩, fun q => absurd (by rw [e64]; exact x0) q⟩⟩
    rw [e64, hn, hlo, hhi]
    generalize hτ : (ups (ups (ups (ups (ups σ 58 n a) 59 n b) 60 n lo) 61 n hi) 55 9 (n + 1)) = τ at *
    have g : ∀ x, [58, 59, 60, 61, 55].contains x = false → τ x = σ x := fun x hx => by
      have k : ∀ y, [58, 59, 60, 61, 55].contains y = true → x ≠ y := fun y hy e => by rw [e, hy] at hx; cases hx
      rw [← hτ, ups_ne (k 55 rfl), ups_ne (k 61 rfl), ups_ne (k 60 rfl), ups_ne (k 59 rfl), ups_ne (k 58 rfl)]
    have g55 : ∀ j, τ 55 j = if j = 9 then n + 1 else σ 55 j := fun j => by
      rw [← hτ]
      by_cases e : j = 9
      · rw [if_pos e, e, ups_hit]
      · rw [if_neg e, ups_fn e, ups_ne (by decide), ups_ne (by decide), ups_ne (by decide), ups_ne (by decide)]
    have g1 : ∀ j, τ 58 j = if j = n then a else σ 58 j := fun j => by
      rw [← hτ, ups_ne (by decide), ups_ne (by decide), ups_ne (by decide), ups_ne (by decide)]
      by_cases e : j = n
      · rw [if_pos e, e, ups_hit]
      · rw [if_neg e, ups_fn e]
    have g2 : ∀ j, τ 59 j = if j = n then b else σ 59 j := fun j => by
      rw [← hτ, ups_ne (by decide), ups_ne (by decide), ups_ne (by decide)]
      by_cases e : j = n
      · rw [if_pos e, e, ups_hit]
      · rw [if_neg e, ups_fn e, ups_ne (by decide)]
    have g3 : ∀ j, τ 60 j = if j = n then lo else σ 60 j := fun j => by
      rw [← hτ, ups_ne (by decide), ups_ne (by decide)]
      by_cases e : j = n
      · rw [if_pos e, e, ups_hit]
      · rw [if_neg e, ups_fn e, ups_ne (by decide), ups_ne (by decide)]
    have g4 : ∀ j, τ 61 j = if j = n then hi else σ 61 j := fun j => by
      rw [← hτ, ups_ne (by decide)]
      by_cases e : j = n
      · rw [if_pos e, e, ups_hit]
      · rw [if_neg e, ups_fn e, ups_ne (by decide), ups_ne (by decide), ups_ne (by decide)]
    have hs0 : Sm σ τ [55, 58, 59, 60, 61] [] := ⟨fun x hx => g x (by
      cases hc : [58, 59, 60, 61, 55].contains x with
      | false => rfl
      | true =>
        have := List.contains_iff_mem.mp hc
        simp only [List.mem_cons, List.not_mem_nil, or_false] at this
        rcases this with rfl | rfl | rfl | rfl | rfl <;> cases hx), fun j _ => by rw [g 64 rfl]⟩
    have hs : Sm σ (ups (ups (ups (ups (ups τ 95 n a) 96 n b) 97 n lo) 98 n hi) 64 60 (n + 1)) [55, 58, 59, 60, 61, 95, 96, 97, 98, 64] [60] := (((((hs0.mono (by decide) (by decide)).ups rfl (Or.inl (by decide))).ups rfl (Or.inl (by decide))).ups rfl (Or.inl (by decide))).ups rfl (Or.inl (by decide))).ups rfl (Or.inr rfl)
    refine ⟨⟨rfl, ⟨by omega, by omega⟩⟩, ⟨hs.1 0 rfl, hs.1 1 rfl⟩, hI.evid (hs.mono (by decide) (by decide)) ?_⟩
    generalize hυ : (ups (ups (ups (ups (ups τ 95 n a) 96 n b) 97 n lo) 98 n hi) 64 60 (n + 1)) = υ at *
    have f55 : ∀ x, [95, 96, 97, 98, 64].contains x = false → υ x = τ x := fun x hx => by
      have k : ∀ y, [95, 96, 97, 98, 64].contains y = true → x ≠ y := fun y hy e => by rw [e, hy] at hx; cases hx
      rw [← hυ, ups_ne (k 64 rfl), ups_ne (k 98 rfl), ups_ne (k 97 rfl), ups_ne (k 96 rfl), ups_ne (k 95 rfl)]
    have g5 : ∀ j, υ 95 j = if j = n then a else σ 95 j := fun j => by
      rw [← hυ, ups_ne (by decide), ups_ne (by decide), ups_ne (by decide), ups_ne (by decide)]
      by_cases e : j = n
      · rw [if_pos e, e, ups_hit]
      · rw [if_neg e, ups_fn e, g 95 rfl]
    have g6 : ∀ j, υ 96 j = if j = n then b else σ 96 j := fun j => by
      rw [← hυ, ups_ne (by decide), ups_ne (by decide), ups_ne (by decide)]
      by_cases e : j = n
      · rw [if_pos e, e, ups_hit]
      · rw [if_neg e, ups_fn e, ups_ne (by decide), g 96 rfl]
    have g7 : ∀ j, υ 97 j = if j = n then lo else σ 97 j := fun j => by
      rw [← hυ, ups_ne (by decide), ups_ne (by decide)]
      by_cases e : j = n
      · rw [if_pos e, e, ups_hit]
      · rw [if_neg e, ups_fn e, ups_ne (by decide), ups_ne (by decide), g 97 rfl]
    have g8 : ∀ j, υ 98 j = if j = n then hi else σ 98 j := fun j => by
      rw [← hυ, ups_ne (by decide)]
      by_cases e : j = n
      · rw [if_pos e, e, ups_hit]
      · rw [if_neg e, ups_fn e, ups_ne (by decide), ups_ne (by decide), ups_ne (by decide), g 98 rfl]
    have g60 : υ 64 60 = n + 1 := by rw [← hυ, ups_hit]
    have z55 : υ 64 55 = σ 64 55 := hs.2 55 rfl
    refine ⟨⟨?_, ?_, ?_⟩, ⟨?_, ?_, ?_⟩, fun k k0 k1 => ?_, fun k k0 k1 => ?_⟩
    · rw [f55 55 rfl, g55, if_neg (by decide), z55]; exact v1
    · rw [z55]; exact v2
    · rw [z55]; exact v3
    · rw [f55 55 rfl, g55, if_pos rfl, g60]
    · rw [g60]; omega
    · rw [g60]; omega
    · rw [z55] at k1
      rw [hs.1 56 rfl, hs.1 57 rfl, hs.1 93 rfl, hs.1 94 rfl, hs.2 37 rfl]
      exact v7 k k0 k1
    · rw [g60] at k1
      rw [f55 58 rfl, f55 59 rfl, f55 60 rfl, f55 61 rfl, g1, g2, g3, g4, g5, g6, g7, g8, hs.2 37 rfl, hs.2 38 rfl]
      by_cases e : k = n
      · simp only [if_pos e]; exact ⟨by simp, x0, x1, by omega, by omega, by omega⟩
      · simp only [if_neg e]; exact v8 k k0 (by omega)
  · refine pair_q (v := -1) hI (by decide) ?_ ?_
    · exact bF_claim_in (d := 996) ⟨ha, hb, ⟨by omega, by omega⟩, ⟨by omega, by omega⟩, fun h1 => ⟨hc, fun _ => ⟨rfl, rfl⟩, fun h2 => ⟨fun _ => ⟨rfl, rfl⟩, fun h3 => ⟨hd, fun _ => ⟨rfl, rfl⟩, fun h4 => ⟨fun h5 => bEd_addClaim_in (d := 996) ⟨⟨by omega, by omega⟩, fun h6 => absurd ⟨⟨⟨h1.1, by omega⟩, ⟨h1.2.2.1, by omega⟩, ⟨h2, h3⟩, h4, h5⟩, by omega⟩ hx, fun _ => ⟨rfl, rfl⟩⟩, fun _ => ⟨rfl, rfl⟩⟩⟩⟩⟩, fun _ => ⟨rfl, rfl⟩⟩
    · exact bR_claim_in (d := 996) ⟨ha, hI.mOK, fun h1 => ⟨hb, fun h2 => ⟨hc, fun h3 => ⟨hd, fun h4 => ⟨⟨by omega, by omega⟩, fun h5 => absurd ⟨⟨h1, h2, h3, h4⟩, by omega⟩ hx, fun _ => ⟨rfl, rfl⟩⟩, fun _ => ⟨rfl, rfl⟩⟩, fun _ => ⟨rfl, rfl⟩⟩, fun _ => ⟨rfl, rfl⟩⟩, fun _ => ⟨rfl, rfl⟩⟩
