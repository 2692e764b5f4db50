/-! ===== THE MARKET READ, BY THE REFERENCE ===== -/
/-- how a reading goes wrong: at once, or seen behind it -/
def FR (τ : Mem) (B : Int → Int) (N w : Int) : Prop := τ 64 4 = w ∨ (τ 64 4 = -1 ∧ TqR τ B N w ∧ ¬ hr B N w = 59 ∧ ¬ hr B N w = -1 ∧ ¬ hr B N w = 32)
theorem itemR (d : Nat) {k c : Int} {ω : Mem} (hk : 0 ≤ k ∧ k < 4) (hc : rg c) (h0 : c ≠ 0) {Q : RV → Mem → Prop} (hq : Q (rI (iOf k c)) ω) : Cl (d + 1) mR_itemOf [aI (cst 2 k), aI c] ω Q := by
  rcases k4 hk with e | e | e | e <;> subst e
  · change Q (rI (if (118 : Int) = c then 0 else if (114 : Int) = c then 1 else if (0 : Int) = c then 2 else -1)) ω at hq
    show Cl (d + 1) mR_itemOf [aI 120, aI c] ω Q
    refine bR_itemOf_in ⟨by decide, fun z => absurd rfl z, fun _ => ⟨hc, fun z => ⟨fun y => ?_, fun y => ?_⟩, fun z => ?_⟩⟩
    · rw [if_neg (fun q => z q.symm), if_neg (fun q => y q.symm), if_neg (fun q => h0 q.symm)] at hq; exact hq
    · rw [if_neg (fun q => z q.symm), if_pos y.symm] at hq; exact hq
    · rw [if_pos z.symm] at hq; exact hq
  · change Q (rI (if (109 : Int) = c then 0 else if (103 : Int) = c then 1 else if (108 : Int) = c then 2 else -1)) ω at hq
    show Cl (d + 1) mR_itemOf [aI 112, aI c] ω Q
    refine bR_itemOf_in ⟨by decide, fun _ => ⟨fun z => absurd rfl z, fun _ => ⟨hc, fun z => ⟨fun y => ⟨fun x => ?_, fun x => ?_⟩, fun y => ?_⟩, fun z => ?_⟩⟩, fun z => absurd z (by decide)⟩
    · rw [if_neg (fun q => z q.symm), if_neg (fun q => y q.symm), if_neg (fun q => x q.symm)] at hq; exact hq
    · rw [if_neg (fun q => z q.symm), if_neg (fun q => y q.symm), if_pos x.symm] at hq; exact hq
    · rw [if_neg (fun q => z q.symm), if_pos y.symm] at hq; exact hq
    · rw [if_pos z.symm] at hq; exact hq
  · change Q (rI (if (97 : Int) = c then 0 else if (98 : Int) = c then 1 else if (112 : Int) = c then 2 else -1)) ω at hq
    show Cl (d + 1) mR_itemOf [aI 115, aI c] ω Q
    refine bR_itemOf_in ⟨by decide, fun _ => ⟨fun _ => ⟨hc, fun z => ⟨fun y => ⟨fun x => absurd rfl x, fun _ => ⟨fun x => ?_, fun x => ?_⟩⟩, fun y => ?_⟩, fun z => ?_⟩, fun z => absurd z (by decide)⟩, fun z => absurd z (by decide)⟩
    · rw [if_neg (fun q => z q.symm), if_neg (fun q => y q.symm), if_neg (fun q => x q.symm)] at hq; exact hq
    · rw [if_neg (fun q => z q.symm), if_neg (fun q => y q.symm), if_pos x.symm] at hq; exact hq
    · rw [if_neg (fun q => z q.symm), if_pos y.symm] at hq; exact hq
    · rw [if_pos z.symm] at hq; exact hq
  · change Q (rI (if (97 : Int) = c then 0 else if (98 : Int) = c then 1 else if (0 : Int) = c then 2 else -1)) ω at hq
    show Cl (d + 1) mR_itemOf [aI 99, aI c] ω Q
    refine bR_itemOf_in ⟨by decide, fun _ => ⟨fun _ => ⟨hc, fun z => ⟨fun y => ⟨fun x => ?_, fun x => absurd x (by decide)⟩, fun y => ?_⟩, fun z => ?_⟩, fun z => absurd z (by decide)⟩, fun z => absurd z (by decide)⟩
    · rw [if_neg (fun q => z q.symm), if_neg (fun q => y q.symm), if_neg (fun q => h0 q.symm)] at hq; exact hq
    · rw [if_neg (fun q => z q.symm), if_pos y.symm] at hq; exact hq
    · rw [if_pos z.symm] at hq; exact hq
theorem usualR (d : Nat) {k i : Int} {ω : Mem} (hk : 0 ≤ k ∧ k < 4) (hi : 0 ≤ i ∧ i < cst 8 k) {Q : RV → Mem → Prop} (hq : Q (rI (usM k i)) ω) : Cl (d + 1) mR_usual [aI (cst 2 k), aI i] ω Q := by
  rcases k4 hk with e | e | e | e <;> subst e
  · have hi' : i = 0 ∨ i = 1 := by have := hi.2; change i < 2 at this; omega
    show Cl (d + 1) mR_usual [aI 120, aI i] ω Q
    rcases hi' with e | e <;> subst e
    · exact bR_usual_in ⟨by decide, fun z => absurd rfl z, fun _ => ⟨by decide, fun z => absurd rfl z, fun _ => hq⟩⟩
    · exact bR_usual_in ⟨by decide, fun z => absurd rfl z, fun _ => ⟨by decide, fun _ => hq, fun z => absurd z (by decide)⟩⟩
  · have hi' : i = 0 ∨ i = 1 ∨ i = 2 := by have := hi.2; change i < 3 at this; omega
    show Cl (d + 1) mR_usual [aI 112, aI i] ω Q
    rcases hi' with e | e | e <;> subst e
    · exact bR_usual_in ⟨by decide, fun _ => ⟨fun z => absurd rfl z, fun _ => ⟨by decide, fun _ => hq, fun z => absurd z (by decide)⟩⟩, fun z => absurd z (by decide)⟩
    · exact bR_usual_in ⟨by decide, fun _ => ⟨fun z => absurd rfl z, fun _ => ⟨by decide, fun _ => hq, fun z => absurd z (by decide)⟩⟩, fun z => absurd z (by decide)⟩
    · exact bR_usual_in ⟨by decide, fun _ => ⟨fun z => absurd rfl z, fun _ => ⟨by decide, fun z => absurd rfl z, fun _ => hq⟩⟩, fun z => absurd z (by decide)⟩
  · have hi' : i = 0 ∨ i = 1 ∨ i = 2 := by have := hi.2; change i < 3 at this; omega
    show Cl (d + 1) mR_usual [aI 115, aI i] ω Q
    rcases hi' with e | e | e <;> subst e
    · exact bR_usual_in ⟨by decide, fun _ => ⟨fun _ => ⟨by decide, fun _ => hq, fun z => absurd z (by decide)⟩, fun z => absurd z (by decide)⟩, fun z => absurd z (by decide)⟩
    · exact bR_usual_in ⟨by decide, fun _ => ⟨fun _ => ⟨by decide, fun _ => hq, fun z => absurd z (by decide)⟩, fun z => absurd z (by decide)⟩, fun z => absurd z (by decide)⟩
    · exact bR_usual_in ⟨by decide, fun _ => ⟨fun _ => ⟨by decide, fun z => absurd rfl z, fun _ => hq⟩, fun z => absurd z (by decide)⟩, fun z => absurd z (by decide)⟩
  · have hi' : i = 0 ∨ i = 1 := by have := hi.2; change i < 2 at this; omega
    show Cl (d + 1) mR_usual [aI 99, aI i] ω Q
    rcases hi' with e | e <;> subst e
    · exact bR_usual_in ⟨by decide, fun _ => ⟨fun _ => ⟨by decide, fun _ => hq, fun z => absurd z (by decide)⟩, fun z => absurd z (by decide)⟩, fun z => absurd z (by decide)⟩
    · exact bR_usual_in ⟨by decide, fun _ => ⟨fun _ => ⟨by decide, fun _ => hq, fun z => absurd z (by decide)⟩, fun z => absurd z (by decide)⟩, fun z => absurd z (by decide)⟩
theorem highR (d : Nat) {k i : Int} {ω : Mem} (hk : 0 ≤ k ∧ k < 4) (hi : 0 ≤ i ∧ i < cst 8 k) {Q : RV → Mem → Prop} (hq : Q (rI (cst 7 (k * 3 + i))) ω) : Cl (d + 1) mR_highest [aI (cst 2 k), aI i] ω Q := by
  rcases k4 hk with e | e | e | e <;> subst e
  · have hi' : i = 0 ∨ i = 1 := by have := hi.2; change i < 2 at this; omega
    show Cl (d + 1) mR_highest [aI 120, aI i] ω Q
    rcases hi' with e | e <;> subst e
    · exact bR_highest_in ⟨by decide, fun z => absurd rfl z, fun _ => ⟨by decide, fun z => absurd rfl z, fun _ => hq⟩⟩
    · exact bR_highest_in ⟨by decide, fun z => absurd rfl z, fun _ => ⟨by decide, fun _ => hq, fun z => absurd z (by decide)⟩⟩
  · have hi' : i = 0 ∨ i = 1 ∨ i = 2 := by have := hi.2; change i < 3 at this; omega
    show Cl (d + 1) mR_highest [aI 112, aI i] ω Q
    rcases hi' with e | e | e <;> subst e
    · exact bR_highest_in ⟨by decide, fun _ => ⟨fun z => absurd rfl z, fun _ => ⟨by decide, fun _ => hq, fun z => absurd z (by decide)⟩⟩, fun z => absurd z (by decide)⟩
    · exact bR_highest_in ⟨by decide, fun _ => ⟨fun z => absurd rfl z, fun _ => ⟨by decide, fun _ => hq, fun z => absurd z (by decide)⟩⟩, fun z => absurd z (by decide)⟩
    · exact bR_highest_in ⟨by decide, fun _ => ⟨fun z => absurd rfl z, fun _ => ⟨by decide, fun z => absurd rfl z, fun _ => hq⟩⟩, fun z => absurd z (by decide)⟩
  · have hi' : i = 0 ∨ i = 1 ∨ i = 2 := by have := hi.2; change i < 3 at this; omega
    show Cl (d + 1) mR_highest [aI 115, aI i] ω Q
    rcases hi' with e | e | e <;> subst e
    · exact bR_highest_in ⟨by decide, fun _ => ⟨fun _ => ⟨by decide, fun _ => hq, fun z => absurd z (by decide)⟩, fun z => absurd z (by decide)⟩, fun z => absurd z (by decide)⟩
    · exact bR_highest_in ⟨by decide, fun _ => ⟨fun _ => ⟨by decide, fun _ => hq, fun z => absurd z (by decide)⟩, fun z => absurd z (by decide)⟩, fun z => absurd z (by decide)⟩
    · exact bR_highest_in ⟨by decide, fun _ => ⟨fun _ => ⟨by decide, fun z => absurd rfl z, fun _ => hq⟩, fun z => absurd z (by decide)⟩, fun z => absurd z (by decide)⟩
  · have hi' : i = 0 ∨ i = 1 := by have := hi.2; change i < 2 at this; omega
    show Cl (d + 1) mR_highest [aI 99, aI i] ω Q
    rcases hi' with e | e <;> subst e
    · exact bR_highest_in ⟨by decide, fun _ => ⟨fun _ => ⟨by decide, fun _ => hq, fun z => absurd z (by decide)⟩, fun z => absurd z (by decide)⟩, fun z => absurd z (by decide)⟩
    · exact bR_highest_in ⟨by decide, fun _ => ⟨fun _ => ⟨by decide, fun _ => hq, fun z => absurd z (by decide)⟩, fun z => absurd z (by decide)⟩, fun z => absurd z (by decide)⟩
/-- an item that is there is one of those told -/
theorem iOf_W {k c : Int} (hk : 0 ≤ k ∧ k < 4) (h0 : c ≠ 0) : iOf k c < cst 8 k := by
  rcases k4 hk with e | e | e | e <;> subst e
  · show (if (118 : Int) = c then (0 : Int) else if (114 : Int) = c then 1 else if (0 : Int) = c then 2 else -1) < 2
    split
    · decide
    · split
      · decide
      · rw [if_neg (fun q => h0 q.symm)]; decide
  · exact (iOf_r 1 c).2
  · exact (iOf_r 2 c).2
  · show (if (97 : Int) = c then (0 : Int) else if (98 : Int) = c then 1 else if (0 : Int) = c then 2 else -1) < 2
    split
    · decide
    · split
      · decide
      · rw [if_neg (fun q => h0 q.symm)]; decide
theorem bc3 : ∀ g : Fin 8, ∀ i : Fin 3, g.val.testBit i.val = false → (bcF (g.val : Int) ≤ 2 ∧ bcF ((g.val ||| 2 ^ i.val : Nat) : Int) = bcF (g.val : Int) + 1) := by decide +kernel
theorem itemsR75 {B : Int → Int} {N : Int} (hB : BTp B N) (d : Nat) {C a : Int} (hC : 0 ≤ C ∧ C < 8) {ω : Mem} (ha : 0 ≤ a ∧ a ≤ N) (ht : TqR ω B N a) (h4 : ω 64 4 = -1) {Q : RV → Mem → Prop} (h0 : ∀ w, mIt B N 0 4 a 0 (usM 0) = .inl w → ∀ τ, Sm ω τ [64, 75] [3, 4] → FR τ B N w → Q rV τ) (h1 : ∀ a' f, mIt B N 0 4 a 0 (usM 0) = .inr (a', f) → ∀ τ, Sm ω τ [64, 75] [3] → TqR τ B N a' → (∀ i, 0 ≤ i → i < 2 → τ 75 (2 * C + i) = f i) → (∀ j, j < 2 * C → τ 75 j = ω 75 j) → Q rV τ) : Cl (d + 4) mR_items [aR 64, aI 120, aR 75, aI (2 * C), aI 2] ω Q := by
  have hN := hB.1
  -- item by item
  have loop : ∀ (n : Nat) (a g : Int) (f : Int → Int) (τ : Mem), bcF g + (n : Int) = 4 → 0 ≤ a ∧ a ≤ N → 0 ≤ g ∧ g < 8 → Sm ω τ [64, 75] [3] → TqR τ B N (sk B N a) → (∀ i, 0 ≤ i → i < 2 → τ 75 (2 * C + i) = f i) → (∀ j, j < 2 * C → τ 75 j = ω 75 j) → (∀ w, mIt B N 0 n a g f = .inl w → ∀ τ, Sm ω τ [64, 75] [3, 4] → FR τ B N w → Q rV τ) → (∀ a' f', mIt B N 0 n a g f = .inr (a', f') → ∀ τ, Sm ω τ [64, 75] [3] → TqR τ B N a' → (∀ i, 0 ≤ i → i < 2 → τ 75 (2 * C + i) = f' i) → (∀ j, j < 2 * C → τ 75 j = ω 75 j) → Q rV τ) → Ev (d + 4) mR_items 41 [vR 64, vI 120, vR 75, vI (2 * C), vI 2, vI g, vI (iOf 0 (hr B N (sk B N a)))] [] τ Q := by
    intro n
    induction n with
    | zero =>
      intro a g f τ hb ha hg s t lo hi h0 h1
      exfalso
      have := (bcF_T (T := 3) (s := g) (by decide) (by show 0 ≤ g ∧ g < 8; exact hg))
      omega
    | succ n ih =>
      intro a g f τ hb ha hg s t lo hi h0 h1
      have r := (sk_r (B := B) (N := N) (a := a))
      have r2 := r.2 ha.2
      have ir := iOf_r 0 (hr B N (sk B N a))
      have b := hB.r (a := sk B N a) (by omega)
      have nz : hr B N (sk B N a) ≠ 0 := fun z => by
        have := b.2.2 (by rw [z]; decide)
        omega
      have iw := iOf_W (k := 0) (c := hr B N (sk B N a)) (by decide) nz
      change iOf 0 (hr B N (sk B N a)) < 2 at iw
      have e4 : τ 64 4 = -1 := by rw [s.2 4 rfl]; exact h4
      unfold mIt at h0 h1
      have lt : iOf 0 (hr B N (sk B N a)) ≠ -1 → sk B N a < N := fun z => by
        by_cases c3 : hr B N (sk B N a) = -1
        · exact absurd (by rw [c3]; rfl) z
        · exact (b.2.2 c3).1
      have nsp := sk_n (B := B) (N := N) (a := a)
      have n59 : iOf 0 (hr B N (sk B N a)) ≠ -1 → ¬ hr B N (sk B N a) = 59 := fun z q => z (by rw [q]; rfl)
      have nm1 : iOf 0 (hr B N (sk B N a)) ≠ -1 → ¬ hr B N (sk B N a) = -1 := fun z q => z (by rw [q]; rfl)
      generalize iOf 0 (hr B N (sk B N a)) = i at *
      have hbt := hb_bt (s := g) (t := i)
      refine bR_items_r64_r75_41 ⟨by rw [e4]; decide, fun z => absurd e4 z, fun _ => ⟨⟨by omega, by omega⟩, fun z => ?_, fun z => ⟨fun y => ?_, fun y => ?_⟩⟩⟩
      · rw [if_pos z] at h1
        exact h1 _ f rfl τ s t lo hi
      · rw [if_neg z, if_pos ((hbt ⟨by omega, by omega⟩ ⟨by omega, by omega⟩).mp y)] at h0
        exact h0 _ rfl τ (s.mono (by decide) (by decide)) (Or.inr ⟨e4, t, n59 z, nm1 z, nsp⟩)
      · have nb : bt g i = false := Bool.eq_false_iff.mpr (fun q => y ((hbt ⟨by omega, by omega⟩ ⟨by omega, by omega⟩).mpr q))
        rw [if_neg z, if_neg (by rw [nb]; decide)] at h0 h1
        have l2 := lt z
        have c67 := cst67_r (j := 0 * 3 + i) ⟨by omega, by omega⟩
        have bc : bcF g ≤ 2 ∧ bcF (ins g i) = bcF g + 1 := by
          have e1 : g = ((g.toNat : Nat) : Int) := toN hg.1
          have e2 : i = ((i.toNat : Nat) : Int) := toN (by omega)
          have q := bc3 ⟨g.toNat, by omega⟩ ⟨i.toNat, by omega⟩ (by dsimp only; exact nb)
          dsimp only at q
          rw [← ins_n (by omega) (by omega), ← e1, ← e2] at q
          exact q
        have il := ins_lt (m := 3) (s := g) (t := i) ⟨by omega, by omega⟩ ⟨by omega, by omega⟩ (by decide)
        have t2 := t.to (sk B N a + 1)
        have s2 : Sm ω (ups τ 64 3 (sk B N a + 1)) [64, 75] [3] := s.ups rfl (Or.inr rfl)
        obtain ⟨-, q2⟩ := nmr_r hB (lo := cst 6 (0 * 3 + i)) (hi := cst 7 (0 * 3 + i)) (a := sk B N a + 1) ⟨by omega, by omega⟩
        obtain ⟨p2, -⟩ := nmr_r hB (lo := cst 6 (0 * 3 + i)) (hi := cst 7 (0 * 3 + i)) (a := sk B N a + 1) ⟨by omega, by omega⟩
        have g107 : ∀ s0, s0 = cst 6 (0 * 3 + i) → Ev (d + 4) mR_items 107 [vR 64, vI 120, vR 75, vI (2 * C), vI 2, vI (ins g i), vI i] [aI s0, aR 64, aI (2 * C + i), aR 75] (ups τ 64 3 (sk B N a + 1)) Q := by
          intro s0 hs0
          subst hs0
          have lo2 : ∀ j, 0 ≤ j → j < 2 → (ups τ 64 3 (sk B N a + 1)) 75 (2 * C + j) = f j := fun j j0 j1 => by rw [ups_ne (by decide)]; exact lo j j0 j1
          have hi2 : ∀ j, j < 2 * C → (ups τ 64 3 (sk B N a + 1)) 75 j = ω 75 j := fun j hj => by rw [ups_ne (by decide)]; exact hi j hj
          have f4 : (ups τ 64 3 (sk B N a + 1)) 64 4 = -1 := by rw [ups_fn (by decide)]; exact e4
          generalize (ups τ 64 3 (sk B N a + 1)) = τ2 at *
          refine bR_items_r64_r75_107 (highR (d + 2) (k := 0) (i := i) (by decide) ⟨by omega, iw⟩ (numR hB d ⟨by omega, by omega⟩ ⟨by omega, by omega⟩ ⟨by omega, by omega⟩ t2 f4 (fun w e τ3 v s3 ex e1 rv => ⟨(by omega), (by omega), ?_, fun x => ?_, fun x => ?_⟩) (fun a' v e τ3 s3 t3 => ⟨(by omega), (by omega), ?_, fun x => ?_, fun x => ?_⟩)))
          · have := p2 w e
            rw [e1]; exact ⟨by omega, by omega⟩
          · rw [e] at h0
            have sA : Sm ω (ups τ3 75 (2 * C + i) v) [64, 75] [3, 4] := ((s2.mono (by decide) (by decide)).trans (s3.mono (by decide) (by decide))).ups rfl (Or.inl (by decide))
            refine bR_items_r64_r75_41 ⟨?_, fun _ => h0 w rfl _ sA (Or.inl (by rw [ups_ne (by decide)]; exact e1)), fun q => absurd (by rw [ups_ne (by decide)] at q; exact q) x⟩
            have := p2 w e
            rw [ups_ne (by decide), e1]; exact ⟨by omega, by omega⟩
          · have := p2 w e
            rw [e1] at x; omega
          · rw [s3.2 4 rfl, f4]; decide
          · exact absurd (by rw [s3.2 4 rfl, f4]) x
          · rw [e] at h0 h1
            dsimp only at h0 h1
            have q3 := q2 a' v e
            have sA : Sm ω (ups τ3 75 (2 * C + i) v) [64, 75] [3] := (s2.trans (s3.mono (by decide) (by decide))).ups rfl (Or.inl (by decide))
            have tA : TqR (ups τ3 75 (2 * C + i) v) B N a' := t3.sm (S := [75]) (J := []) (Sm.refl.ups rfl (Or.inl (by decide))) rfl rfl rfl
            have rA : ∀ j, 0 ≤ j → j < 2 → (ups τ3 75 (2 * C + i) v) 75 (2 * C + j) = fu f i v j := fun j j0 j1 => by
              by_cases c : j = i
              · rw [c, ups_hit, fu_hit]
              · rw [ups_fn (by omega), fu_ne c, s3.1 75 rfl]; exact lo2 j j0 j1
            have hA : ∀ j, j < 2 * C → (ups τ3 75 (2 * C + i) v) 75 j = ω 75 j := fun j hj => by rw [ups_fn (by omega), s3.1 75 rfl]; exact hi2 j hj
            generalize (ups τ3 75 (2 * C + i) v) = τ4 at *
            refine lookR hB (d + 1) ⟨by omega, by omega⟩ tA (fun τ5 s5 t5 => ?_)
            have b5 := hB.r (a := sk B N a') (by have := (sk_r (B := B) (N := N) (a := a')).1; omega)
            have nz5 : hr B N (sk B N a') ≠ 0 := fun z => by
              have := b5.2.2 (by rw [z]; decide)
              omega
            refine itemR (d + 2) (k := 0) (by decide) ⟨by omega, by omega⟩ nz5 ?_
            exact ih a' (ins g i) (fu f i v) τ5 (by omega) ⟨by omega, by omega⟩ ⟨by omega, by omega⟩ (sA.trans (s5.mono (by decide) (by decide))) t5 (fun j j0 j1 => by rw [s5.1 75 rfl]; exact rA j j0 j1) (fun j hj => by rw [s5.1 75 rfl]; exact hA j hj) h0 h1
        rw [t.2.1]
        refine ⟨by decide, fun _ => g107 0 (by
          have e : i = 0 ∨ i = 1 ∨ i = 2 := by omega
          rcases e with e | e | e <;> subst e <;> rfl), fun x => absurd x (by decide)⟩
  refine bR_items_r64_r75_in ?_
  have st : ∀ (n : Nat) (i : Int) (τ : Mem) (u6 : Option AV), 0 ≤ i → i + (n : Int) = 2 → Sm ω τ [64, 75] [3] → TqR τ B N a → (∀ j, 0 ≤ j → j < i → τ 75 (2 * C + j) = usM 0 j) → (∀ j, j < 2 * C → τ 75 j = ω 75 j) → Ev (d + 4) mR_items 3 [vR 64, vI 120, vR 75, vI (2 * C), vI 2, vI i, u6] [] τ Q := by
    intro n
    induction n with
    | zero =>
      intro i τ u6 i0 i1 s t lo hi
      refine bR_items_r64_r75_3 ⟨⟨by omega, by omega⟩, by decide, fun _ => lookR hB (d + 1) ⟨by omega, by omega⟩ t (fun τ2 s2 t2 => ?_), fun z => absurd z (by omega)⟩
      have b5 := hB.r (a := sk B N a) (by have := (sk_r (B := B) (N := N) (a := a)).1; omega)
      have nz5 : hr B N (sk B N a) ≠ 0 := fun z => by
        have := b5.2.2 (by rw [z]; decide)
        omega
      refine itemR (d + 2) (k := 0) (by decide) ⟨by omega, by omega⟩ nz5 ?_
      exact loop 4 a 0 (usM 0) τ2 (by decide) ha (by decide) (s.trans (s2.mono (by decide) (by decide))) t2 (fun j j0 j1 => by rw [s2.1 75 rfl]; exact lo j j0 (by omega)) (fun j hj => by rw [s2.1 75 rfl]; exact hi j hj) h0 h1
    | succ n ih =>
      intro i τ u6 i0 i1 s t lo hi
      refine bR_items_r64_r75_3 ⟨⟨by omega, by omega⟩, by decide, fun z => absurd z (by omega), fun _ => usualR (d + 2) (k := 0) (i := i) (by decide) ⟨i0, by show i < 2; omega⟩ ⟨(by omega), (by omega), ?_⟩⟩
      refine ih (i + 1) _ u6 (by omega) (by omega) (s.ups rfl (Or.inl (by decide))) (t.sm (S := [75]) (J := []) (Sm.refl.ups rfl (Or.inl (by decide))) rfl rfl rfl) (fun j j0 j1 => ?_) (fun j hj => by rw [ups_fn (by omega)]; exact hi j hj)
      by_cases c : j = i
      · rw [c, ups_hit]
      · rw [ups_fn (by omega)]; exact lo j j0 (by omega)
  exact st 2 0 ω vU (by decide) (by decide) Sm.refl ht (fun j a b => absurd b (by omega)) (fun _ _ => rfl)
theorem itemsR76 {B : Int → Int} {N : Int} (hB : BTp B N) (d : Nat) {C a : Int} (hC : 0 ≤ C ∧ C < 6) {ω : Mem} (ha : 0 ≤ a ∧ a ≤ N) (ht : TqR ω B N a) (h4 : ω 64 4 = -1) {Q : RV → Mem → Prop} (h0 : ∀ w, mIt B N 1 4 a 0 (usM 1) = .inl w → ∀ τ, Sm ω τ [64, 76] [3, 4] → FR τ B N w → Q rV τ) (h1 : ∀ a' f, mIt B N 1 4 a 0 (usM 1) = .inr (a', f) → ∀ τ, Sm ω τ [64, 76] [3] → TqR τ B N a' → (∀ i, 0 ≤ i → i < 3 → τ 76 (3 * C + i) = f i) → (∀ j, j < 3 * C → τ 76 j = ω 76 j) → Q rV τ) : Cl (d + 4) mR_items [aR 64, aI 112, aR 76, aI (3 * C), aI 3] ω Q := by
  have hN := hB.1
  -- item by item
  have loop : ∀ (n : Nat) (a g : Int) (f : Int → Int) (τ : Mem), bcF g + (n : Int) = 4 → 0 ≤ a ∧ a ≤ N → 0 ≤ g ∧ g < 8 → Sm ω τ [64, 76] [3] → TqR τ B N (sk B N a) → (∀ i, 0 ≤ i → i < 3 → τ 76 (3 * C + i) = f i) → (∀ j, j < 3 * C → τ 76 j = ω 76 j) → (∀ w, mIt B N 1 n a g f = .inl w → ∀ τ, Sm ω τ [64, 76] [3, 4] → FR τ B N w → Q rV τ) → (∀ a' f', mIt B N 1 n a g f = .inr (a', f') → ∀ τ, Sm ω τ [64, 76] [3] → TqR τ B N a' → (∀ i, 0 ≤ i → i < 3 → τ 76 (3 * C + i) = f' i) → (∀ j, j < 3 * C → τ 76 j = ω 76 j) → Q rV τ) → Ev (d + 4) mR_items 41 [vR 64, vI 112, vR 76, vI (3 * C), vI 3, vI g, vI (iOf 1 (hr B N (sk B N a)))] [] τ Q := by
    intro n
    induction n with
    | zero =>
      intro a g f τ hb ha hg s t lo hi h0 h1
      exfalso
      have := (bcF_T (T := 3) (s := g) (by decide) (by show 0 ≤ g ∧ g < 8; exact hg))
      omega
    | succ n ih =>
      intro a g f τ hb ha hg s t lo hi h0 h1
      have r := (sk_r (B := B) (N := N) (a := a))
      have r2 := r.2 ha.2
      have ir := iOf_r 1 (hr B N (sk B N a))
      have b := hB.r (a := sk B N a) (by omega)
      have nz : hr B N (sk B N a) ≠ 0 := fun z => by
        have := b.2.2 (by rw [z]; decide)
        omega
      have iw := iOf_W (k := 1) (c := hr B N (sk B N a)) (by decide) nz
      change iOf 1 (hr B N (sk B N a)) < 3 at iw
      have e4 : τ 64 4 = -1 := by rw [s.2 4 rfl]; exact h4
      unfold mIt at h0 h1
      have lt : iOf 1 (hr B N (sk B N a)) ≠ -1 → sk B N a < N := fun z => by
        by_cases c3 : hr B N (sk B N a) = -1
        · exact absurd (by rw [c3]; rfl) z
        · exact (b.2.2 c3).1
      have nsp := sk_n (B := B) (N := N) (a := a)
      have n59 : iOf 1 (hr B N (sk B N a)) ≠ -1 → ¬ hr B N (sk B N a) = 59 := fun z q => z (by rw [q]; rfl)
      have nm1 : iOf 1 (hr B N (sk B N a)) ≠ -1 → ¬ hr B N (sk B N a) = -1 := fun z q => z (by rw [q]; rfl)
      generalize iOf 1 (hr B N (sk B N a)) = i at *
      have hbt := hb_bt (s := g) (t := i)
      refine bR_items_r64_r76_41 ⟨by rw [e4]; decide, fun z => absurd e4 z, fun _ => ⟨⟨by omega, by omega⟩, fun z => ?_, fun z => ⟨fun y => ?_, fun y => ?_⟩⟩⟩
      · rw [if_pos z] at h1
        exact h1 _ f rfl τ s t lo hi
      · rw [if_neg z, if_pos ((hbt ⟨by omega, by omega⟩ ⟨by omega, by omega⟩).mp y)] at h0
        exact h0 _ rfl τ (s.mono (by decide) (by decide)) (Or.inr ⟨e4, t, n59 z, nm1 z, nsp⟩)
      · have nb : bt g i = false := Bool.eq_false_iff.mpr (fun q => y ((hbt ⟨by omega, by omega⟩ ⟨by omega, by omega⟩).mpr q))
        rw [if_neg z, if_neg (by rw [nb]; decide)] at h0 h1
        have l2 := lt z
        have c67 := cst67_r (j := 1 * 3 + i) ⟨by omega, by omega⟩
        have bc : bcF g ≤ 2 ∧ bcF (ins g i) = bcF g + 1 := by
          have e1 : g = ((g.toNat : Nat) : Int) := toN hg.1
          have e2 : i = ((i.toNat : Nat) : Int) := toN (by omega)
          have q := bc3 ⟨g.toNat, by omega⟩ ⟨i.toNat, by omega⟩ (by dsimp only; exact nb)
          dsimp only at q
          rw [← ins_n (by omega) (by omega), ← e1, ← e2] at q
          exact q
        have il := ins_lt (m := 3) (s := g) (t := i) ⟨by omega, by omega⟩ ⟨by omega, by omega⟩ (by decide)
        have t2 := t.to (sk B N a + 1)
        have s2 : Sm ω (ups τ 64 3 (sk B N a + 1)) [64, 76] [3] := s.ups rfl (Or.inr rfl)
        obtain ⟨-, q2⟩ := nmr_r hB (lo := cst 6 (1 * 3 + i)) (hi := cst 7 (1 * 3 + i)) (a := sk B N a + 1) ⟨by omega, by omega⟩
        obtain ⟨p2, -⟩ := nmr_r hB (lo := cst 6 (1 * 3 + i)) (hi := cst 7 (1 * 3 + i)) (a := sk B N a + 1) ⟨by omega, by omega⟩
        have g107 : ∀ s0, s0 = cst 6 (1 * 3 + i) → Ev (d + 4) mR_items 107 [vR 64, vI 112, vR 76, vI (3 * C), vI 3, vI (ins g i), vI i] [aI s0, aR 64, aI (3 * C + i), aR 76] (ups τ 64 3 (sk B N a + 1)) Q := by
          intro s0 hs0
          subst hs0
          have lo2 : ∀ j, 0 ≤ j → j < 3 → (ups τ 64 3 (sk B N a + 1)) 76 (3 * C + j) = f j := fun j j0 j1 => by rw [ups_ne (by decide)]; exact lo j j0 j1
          have hi2 : ∀ j, j < 3 * C → (ups τ 64 3 (sk B N a + 1)) 76 j = ω 76 j := fun j hj => by rw [ups_ne (by decide)]; exact hi j hj
          have f4 : (ups τ 64 3 (sk B N a + 1)) 64 4 = -1 := by rw [ups_fn (by decide)]; exact e4
          generalize (ups τ 64 3 (sk B N a + 1)) = τ2 at *
          refine bR_items_r64_r76_107 (highR (d + 2) (k := 1) (i := i) (by decide) ⟨by omega, iw⟩ (numR hB d ⟨by omega, by omega⟩ ⟨by omega, by omega⟩ ⟨by omega, by omega⟩ t2 f4 (fun w e τ3 v s3 ex e1 rv => ⟨(by omega), (by omega), ?_, fun x => ?_, fun x => ?_⟩) (fun a' v e τ3 s3 t3 => ⟨(by omega), (by omega), ?_, fun x => ?_, fun x => ?_⟩)))
          · have := p2 w e
            rw [e1]; exact ⟨by omega, by omega⟩
          · rw [e] at h0
            have sA : Sm ω (ups τ3 76 (3 * C + i) v) [64, 76] [3, 4] := ((s2.mono (by decide) (by decide)).trans (s3.mono (by decide) (by decide))).ups rfl (Or.inl (by decide))
            refine bR_items_r64_r76_41 ⟨?_, fun _ => h0 w rfl _ sA (Or.inl (by rw [ups_ne (by decide)]; exact e1)), fun q => absurd (by rw [ups_ne (by decide)] at q; exact q) x⟩
            have := p2 w e
            rw [ups_ne (by decide), e1]; exact ⟨by omega, by omega⟩
          · have := p2 w e
            rw [e1] at x; omega
          · rw [s3.2 4 rfl, f4]; decide
          · exact absurd (by rw [s3.2 4 rfl, f4]) x
          · rw [e] at h0 h1
            dsimp only at h0 h1
            have q3 := q2 a' v e
            have sA : Sm ω (ups τ3 76 (3 * C + i) v) [64, 76] [3] := (s2.trans (s3.mono (by decide) (by decide))).ups rfl (Or.inl (by decide))
            have tA : TqR (ups τ3 76 (3 * C + i) v) B N a' := t3.sm (S := [76]) (J := []) (Sm.refl.ups rfl (Or.inl (by decide))) rfl rfl rfl
            have rA : ∀ j, 0 ≤ j → j < 3 → (ups τ3 76 (3 * C + i) v) 76 (3 * C + j) = fu f i v j := fun j j0 j1 => by
              by_cases c : j = i
              · rw [c, ups_hit, fu_hit]
              · rw [ups_fn (by omega), fu_ne c, s3.1 76 rfl]; exact lo2 j j0 j1
            have hA : ∀ j, j < 3 * C → (ups τ3 76 (3 * C + i) v) 76 j = ω 76 j := fun j hj => by rw [ups_fn (by omega), s3.1 76 rfl]; exact hi2 j hj
            generalize (ups τ3 76 (3 * C + i) v) = τ4 at *
            refine lookR hB (d + 1) ⟨by omega, by omega⟩ tA (fun τ5 s5 t5 => ?_)
            have b5 := hB.r (a := sk B N a') (by have := (sk_r (B := B) (N := N) (a := a')).1; omega)
            have nz5 : hr B N (sk B N a') ≠ 0 := fun z => by
              have := b5.2.2 (by rw [z]; decide)
              omega
            refine itemR (d + 2) (k := 1) (by decide) ⟨by omega, by omega⟩ nz5 ?_
            exact ih a' (ins g i) (fu f i v) τ5 (by omega) ⟨by omega, by omega⟩ ⟨by omega, by omega⟩ (sA.trans (s5.mono (by decide) (by decide))) t5 (fun j j0 j1 => by rw [s5.1 76 rfl]; exact rA j j0 j1) (fun j hj => by rw [s5.1 76 rfl]; exact hA j hj) h0 h1
        rw [t.2.1]
        refine ⟨by decide, fun _ => g107 0 (by
          have e : i = 0 ∨ i = 1 ∨ i = 2 := by omega
          rcases e with e | e | e <;> subst e <;> rfl), fun x => absurd x (by decide)⟩
  refine bR_items_r64_r76_in ?_
  have st : ∀ (n : Nat) (i : Int) (τ : Mem) (u6 : Option AV), 0 ≤ i → i + (n : Int) = 3 → Sm ω τ [64, 76] [3] → TqR τ B N a → (∀ j, 0 ≤ j → j < i → τ 76 (3 * C + j) = usM 1 j) → (∀ j, j < 3 * C → τ 76 j = ω 76 j) → Ev (d + 4) mR_items 3 [vR 64, vI 112, vR 76, vI (3 * C), vI 3, vI i, u6] [] τ Q := by
    intro n
    induction n with
    | zero =>
      intro i τ u6 i0 i1 s t lo hi
      refine bR_items_r64_r76_3 ⟨⟨by omega, by omega⟩, by decide, fun _ => lookR hB (d + 1) ⟨by omega, by omega⟩ t (fun τ2 s2 t2 => ?_), fun z => absurd z (by omega)⟩
      have b5 := hB.r (a := sk B N a) (by have := (sk_r (B := B) (N := N) (a := a)).1; omega)
      have nz5 : hr B N (sk B N a) ≠ 0 := fun z => by
        have := b5.2.2 (by rw [z]; decide)
        omega
      refine itemR (d + 2) (k := 1) (by decide) ⟨by omega, by omega⟩ nz5 ?_
      exact loop 4 a 0 (usM 1) τ2 (by decide) ha (by decide) (s.trans (s2.mono (by decide) (by decide))) t2 (fun j j0 j1 => by rw [s2.1 76 rfl]; exact lo j j0 (by omega)) (fun j hj => by rw [s2.1 76 rfl]; exact hi j hj) h0 h1
    | succ n ih =>
      intro i τ u6 i0 i1 s t lo hi
      refine bR_items_r64_r76_3 ⟨⟨by omega, by omega⟩, by decide, fun z => absurd z (by omega), fun _ => usualR (d + 2) (k := 1) (i := i) (by decide) ⟨i0, by show i < 3; omega⟩ ⟨(by omega), (by omega), ?_⟩⟩
      refine ih (i + 1) _ u6 (by omega) (by omega) (s.ups rfl (Or.inl (by decide))) (t.sm (S := [76]) (J := []) (Sm.refl.ups rfl (Or.inl (by decide))) rfl rfl rfl) (fun j j0 j1 => ?_) (fun j hj => by rw [ups_fn (by omega)]; exact hi j hj)
      by_cases c : j = i
      · rw [c, ups_hit]
      · rw [ups_fn (by omega)]; exact lo j j0 (by omega)
  exact st 3 0 ω vU (by decide) (by decide) Sm.refl ht (fun j a b => absurd b (by omega)) (fun _ _ => rfl)
theorem itemsR77 {B : Int → Int} {N : Int} (hB : BTp B N) (d : Nat) {C a : Int} (hC : 0 ≤ C ∧ C < 10) {ω : Mem} (ha : 0 ≤ a ∧ a ≤ N) (ht : TqR ω B N a) (h4 : ω 64 4 = -1) {Q : RV → Mem → Prop} (h0 : ∀ w, mIt B N 2 4 a 0 (usM 2) = .inl w → ∀ τ, Sm ω τ [64, 77] [3, 4] → FR τ B N w → Q rV τ) (h1 : ∀ a' f, mIt B N 2 4 a 0 (usM 2) = .inr (a', f) → ∀ τ, Sm ω τ [64, 77] [3] → TqR τ B N a' → (∀ i, 0 ≤ i → i < 3 → τ 77 (3 * C + i) = f i) → (∀ j, j < 3 * C → τ 77 j = ω 77 j) → Q rV τ) : Cl (d + 4) mR_items [aR 64, aI 115, aR 77, aI (3 * C), aI 3] ω Q := by
  have hN := hB.1
  -- item by item
  have loop : ∀ (n : Nat) (a g : Int) (f : Int → Int) (τ : Mem), bcF g + (n : Int) = 4 → 0 ≤ a ∧ a ≤ N → 0 ≤ g ∧ g < 8 → Sm ω τ [64, 77] [3] → TqR τ B N (sk B N a) → (∀ i, 0 ≤ i → i < 3 → τ 77 (3 * C + i) = f i) → (∀ j, j < 3 * C → τ 77 j = ω 77 j) → (∀ w, mIt B N 2 n a g f = .inl w → ∀ τ, Sm ω τ [64, 77] [3, 4] → FR τ B N w → Q rV τ) → (∀ a' f', mIt B N 2 n a g f = .inr (a', f') → ∀ τ, Sm ω τ [64, 77] [3] → TqR τ B N a' → (∀ i, 0 ≤ i → i < 3 → τ 77 (3 * C + i) = f' i) → (∀ j, j < 3 * C → τ 77 j = ω 77 j) → Q rV τ) → Ev (d + 4) mR_items 41 [vR 64, vI 115, vR 77, vI (3 * C), vI 3, vI g, vI (iOf 2 (hr B N (sk B N a)))] [] τ Q := by
    intro n
    induction n with
    | zero =>
      intro a g f τ hb ha hg s t lo hi h0 h1
      exfalso
      have := (bcF_T (T := 3) (s := g) (by decide) (by show 0 ≤ g ∧ g < 8; exact hg))
      omega
    | succ n ih =>
      intro a g f τ hb ha hg s t lo hi h0 h1
      have r := (sk_r (B := B) (N := N) (a := a))
      have r2 := r.2 ha.2
      have ir := iOf_r 2 (hr B N (sk B N a))
      have b := hB.r (a := sk B N a) (by omega)
      have nz : hr B N (sk B N a) ≠ 0 := fun z => by
        have := b.2.2 (by rw [z]; decide)
        omega
      have iw := iOf_W (k := 2) (c := hr B N (sk B N a)) (by decide) nz
      change iOf 2 (hr B N (sk B N a)) < 3 at iw
      have e4 : τ 64 4 = -1 := by rw [s.2 4 rfl]; exact h4
      unfold mIt at h0 h1
      have lt : iOf 2 (hr B N (sk B N a)) ≠ -1 → sk B N a < N := fun z => by
        by_cases c3 : hr B N (sk B N a) = -1
        · exact absurd (by rw [c3]; rfl) z
        · exact (b.2.2 c3).1
      have nsp := sk_n (B := B) (N := N) (a := a)
      have n59 : iOf 2 (hr B N (sk B N a)) ≠ -1 → ¬ hr B N (sk B N a) = 59 := fun z q => z (by rw [q]; rfl)
      have nm1 : iOf 2 (hr B N (sk B N a)) ≠ -1 → ¬ hr B N (sk B N a) = -1 := fun z q => z (by rw [q]; rfl)
      generalize iOf 2 (hr B N (sk B N a)) = i at *
      have hbt := hb_bt (s := g) (t := i)
      refine bR_items_r64_r77_41 ⟨by rw [e4]; decide, fun z => absurd e4 z, fun _ => ⟨⟨by omega, by omega⟩, fun z => ?_, fun z => ⟨fun y => ?_, fun y => ?_⟩⟩⟩
      · rw [if_pos z] at h1
        exact h1 _ f rfl τ s t lo hi
      · rw [if_neg z, if_pos ((hbt ⟨by omega, by omega⟩ ⟨by omega, by omega⟩).mp y)] at h0
        exact h0 _ rfl τ (s.mono (by decide) (by decide)) (Or.inr ⟨e4, t, n59 z, nm1 z, nsp⟩)
      · have nb : bt g i = false := Bool.eq_false_iff.mpr (fun q => y ((hbt ⟨by omega, by omega⟩ ⟨by omega, by omega⟩).mpr q))
        rw [if_neg z, if_neg (by rw [nb]; decide)] at h0 h1
        have l2 := lt z
        have c67 := cst67_r (j := 2 * 3 + i) ⟨by omega, by omega⟩
        have bc : bcF g ≤ 2 ∧ bcF (ins g i) = bcF g + 1 := by
          have e1 : g = ((g.toNat : Nat) : Int) := toN hg.1
          have e2 : i = ((i.toNat : Nat) : Int) := toN (by omega)
          have q := bc3 ⟨g.toNat, by omega⟩ ⟨i.toNat, by omega⟩ (by dsimp only; exact nb)
          dsimp only at q
          rw [← ins_n (by omega) (by omega), ← e1, ← e2] at q
          exact q
        have il := ins_lt (m := 3) (s := g) (t := i) ⟨by omega, by omega⟩ ⟨by omega, by omega⟩ (by decide)
        have t2 := t.to (sk B N a + 1)
        have s2 : Sm ω (ups τ 64 3 (sk B N a + 1)) [64, 77] [3] := s.ups rfl (Or.inr rfl)
        obtain ⟨-, q2⟩ := nmr_r hB (lo := cst 6 (2 * 3 + i)) (hi := cst 7 (2 * 3 + i)) (a := sk B N a + 1) ⟨by omega, by omega⟩
        obtain ⟨p2, -⟩ := nmr_r hB (lo := cst 6 (2 * 3 + i)) (hi := cst 7 (2 * 3 + i)) (a := sk B N a + 1) ⟨by omega, by omega⟩
        have g107 : ∀ s0, s0 = cst 6 (2 * 3 + i) → Ev (d + 4) mR_items 107 [vR 64, vI 115, vR 77, vI (3 * C), vI 3, vI (ins g i), vI i] [aI s0, aR 64, aI (3 * C + i), aR 77] (ups τ 64 3 (sk B N a + 1)) Q := by
          intro s0 hs0
          subst hs0
          have lo2 : ∀ j, 0 ≤ j → j < 3 → (ups τ 64 3 (sk B N a + 1)) 77 (3 * C + j) = f j := fun j j0 j1 => by rw [ups_ne (by decide)]; exact lo j j0 j1
          have hi2 : ∀ j, j < 3 * C → (ups τ 64 3 (sk B N a + 1)) 77 j = ω 77 j := fun j hj => by rw [ups_ne (by decide)]; exact hi j hj
          have f4 : (ups τ 64 3 (sk B N a + 1)) 64 4 = -1 := by rw [ups_fn (by decide)]; exact e4
          generalize (ups τ 64 3 (sk B N a + 1)) = τ2 at *
          refine bR_items_r64_r77_107 (highR (d + 2) (k := 2) (i := i) (by decide) ⟨by omega, iw⟩ (numR hB d ⟨by omega, by omega⟩ ⟨by omega, by omega⟩ ⟨by omega, by omega⟩ t2 f4 (fun w e τ3 v s3 ex e1 rv => ⟨(by omega), (by omega), ?_, fun x => ?_, fun x => ?_⟩) (fun a' v e τ3 s3 t3 => ⟨(by omega), (by omega), ?_, fun x => ?_, fun x => ?_⟩)))
          · have := p2 w e
            rw [e1]; exact ⟨by omega, by omega⟩
          · rw [e] at h0
            have sA : Sm ω (ups τ3 77 (3 * C + i) v) [64, 77] [3, 4] := ((s2.mono (by decide) (by decide)).trans (s3.mono (by decide) (by decide))).ups rfl (Or.inl (by decide))
            refine bR_items_r64_r77_41 ⟨?_, fun _ => h0 w rfl _ sA (Or.inl (by rw [ups_ne (by decide)]; exact e1)), fun q => absurd (by rw [ups_ne (by decide)] at q; exact q) x⟩
            have := p2 w e
            rw [ups_ne (by decide), e1]; exact ⟨by omega, by omega⟩
          · have := p2 w e
            rw [e1] at x; omega
          · rw [s3.2 4 rfl, f4]; decide
          · exact absurd (by rw [s3.2 4 rfl, f4]) x
          · rw [e] at h0 h1
            dsimp only at h0 h1
            have q3 := q2 a' v e
            have sA : Sm ω (ups τ3 77 (3 * C + i) v) [64, 77] [3] := (s2.trans (s3.mono (by decide) (by decide))).ups rfl (Or.inl (by decide))
            have tA : TqR (ups τ3 77 (3 * C + i) v) B N a' := t3.sm (S := [77]) (J := []) (Sm.refl.ups rfl (Or.inl (by decide))) rfl rfl rfl
            have rA : ∀ j, 0 ≤ j → j < 3 → (ups τ3 77 (3 * C + i) v) 77 (3 * C + j) = fu f i v j := fun j j0 j1 => by
              by_cases c : j = i
              · rw [c, ups_hit, fu_hit]
              · rw [ups_fn (by omega), fu_ne c, s3.1 77 rfl]; exact lo2 j j0 j1
            have hA : ∀ j, j < 3 * C → (ups τ3 77 (3 * C + i) v) 77 j = ω 77 j := fun j hj => by rw [ups_fn (by omega), s3.1 77 rfl]; exact hi2 j hj
            generalize (ups τ3 77 (3 * C + i) v) = τ4 at *
            refine lookR hB (d + 1) ⟨by omega, by omega⟩ tA (fun τ5 s5 t5 => ?_)
            have b5 := hB.r (a := sk B N a') (by have := (sk_r (B := B) (N := N) (a := a')).1; omega)
            have nz5 : hr B N (sk B N a') ≠ 0 := fun z => by
              have := b5.2.2 (by rw [z]; decide)
              omega
            refine itemR (d + 2) (k := 2) (by decide) ⟨by omega, by omega⟩ nz5 ?_
            exact ih a' (ins g i) (fu f i v) τ5 (by omega) ⟨by omega, by omega⟩ ⟨by omega, by omega⟩ (sA.trans (s5.mono (by decide) (by decide))) t5 (fun j j0 j1 => by rw [s5.1 77 rfl]; exact rA j j0 j1) (fun j hj => by rw [s5.1 77 rfl]; exact hA j hj) h0 h1
        rw [t.2.1]
        refine ⟨by decide, fun x => absurd rfl x, fun _ => ⟨fun x => g107 0 (by
          have e : i = 0 ∨ i = 1 := by omega
          rcases e with e | e <;> subst e <;> rfl), fun x => g107 1 (by subst x; rfl)⟩⟩
  refine bR_items_r64_r77_in ?_
  have st : ∀ (n : Nat) (i : Int) (τ : Mem) (u6 : Option AV), 0 ≤ i → i + (n : Int) = 3 → Sm ω τ [64, 77] [3] → TqR τ B N a → (∀ j, 0 ≤ j → j < i → τ 77 (3 * C + j) = usM 2 j) → (∀ j, j < 3 * C → τ 77 j = ω 77 j) → Ev (d + 4) mR_items 3 [vR 64, vI 115, vR 77, vI (3 * C), vI 3, vI i, u6] [] τ Q := by
    intro n
    induction n with
    | zero =>
      intro i τ u6 i0 i1 s t lo hi
      refine bR_items_r64_r77_3 ⟨⟨by omega, by omega⟩, by decide, fun _ => lookR hB (d + 1) ⟨by omega, by omega⟩ t (fun τ2 s2 t2 => ?_), fun z => absurd z (by omega)⟩
      have b5 := hB.r (a := sk B N a) (by have := (sk_r (B := B) (N := N) (a := a)).1; omega)
      have nz5 : hr B N (sk B N a) ≠ 0 := fun z => by
        have := b5.2.2 (by rw [z]; decide)
        omega
      refine itemR (d + 2) (k := 2) (by decide) ⟨by omega, by omega⟩ nz5 ?_
      exact loop 4 a 0 (usM 2) τ2 (by decide) ha (by decide) (s.trans (s2.mono (by decide) (by decide))) t2 (fun j j0 j1 => by rw [s2.1 77 rfl]; exact lo j j0 (by omega)) (fun j hj => by rw [s2.1 77 rfl]; exact hi j hj) h0 h1
    | succ n ih =>
      intro i τ u6 i0 i1 s t lo hi
      refine bR_items_r64_r77_3 ⟨⟨by omega, by omega⟩, by decide, fun z => absurd z (by omega), fun _ => usualR (d + 2) (k := 2) (i := i) (by decide) ⟨i0, by show i < 3; omega⟩ ⟨(by omega), (by omega), ?_⟩⟩
      refine ih (i + 1) _ u6 (by omega) (by omega) (s.ups rfl (Or.inl (by decide))) (t.sm (S := [77]) (J := []) (Sm.refl.ups rfl (Or.inl (by decide))) rfl rfl rfl) (fun j j0 j1 => ?_) (fun j hj => by rw [ups_fn (by omega)]; exact hi j hj)
      by_cases c : j = i
      · rw [c, ups_hit]
      · rw [ups_fn (by omega)]; exact lo j j0 (by omega)
  exact st 3 0 ω vU (by decide) (by decide) Sm.refl ht (fun j a b => absurd b (by omega)) (fun _ _ => rfl)
theorem itemsR78 {B : Int → Int} {N : Int} (hB : BTp B N) (d : Nat) {C a : Int} (hC : 0 ≤ C ∧ C < 6) {ω : Mem} (ha : 0 ≤ a ∧ a ≤ N) (ht : TqR ω B N a) (h4 : ω 64 4 = -1) {Q : RV → Mem → Prop} (h0 : ∀ w, mIt B N 3 4 a 0 (usM 3) = .inl w → ∀ τ, Sm ω τ [64, 78] [3, 4] → FR τ B N w → Q rV τ) (h1 : ∀ a' f, mIt B N 3 4 a 0 (usM 3) = .inr (a', f) → ∀ τ, Sm ω τ [64, 78] [3] → TqR τ B N a' → (∀ i, 0 ≤ i → i < 2 → τ 78 (2 * C + i) = f i) → (∀ j, j < 2 * C → τ 78 j = ω 78 j) → Q rV τ) : Cl (d + 4) mR_items [aR 64, aI 99, aR 78, aI (2 * C), aI 2] ω Q := by
  have hN := hB.1
  -- item by item
  have loop : ∀ (n : Nat) (a g : Int) (f : Int → Int) (τ : Mem), bcF g + (n : Int) = 4 → 0 ≤ a ∧ a ≤ N → 0 ≤ g ∧ g < 8 → Sm ω τ [64, 78] [3] → TqR τ B N (sk B N a) → (∀ i, 0 ≤ i → i < 2 → τ 78 (2 * C + i) = f i) → (∀ j, j < 2 * C → τ 78 j = ω 78 j) → (∀ w, mIt B N 3 n a g f = .inl w → ∀ τ, Sm ω τ [64, 78] [3, 4] → FR τ B N w → Q rV τ) → (∀ a' f', mIt B N 3 n a g f = .inr (a', f') → ∀ τ, Sm ω τ [64, 78] [3] → TqR τ B N a' → (∀ i, 0 ≤ i → i < 2 → τ 78 (2 * C + i) = f' i) → (∀ j, j < 2 * C → τ 78 j = ω 78 j) → Q rV τ) → Ev (d + 4) mR_items 41 [vR 64, vI 99, vR 78, vI (2 * C), vI 2, vI g, vI (iOf 3 (hr B N (sk B N a)))] [] τ Q := by
    intro n
    induction n with
    | zero =>
      intro a g f τ hb ha hg s t lo hi h0 h1
      exfalso
      have := (bcF_T (T := 3) (s := g) (by decide) (by show 0 ≤ g ∧ g < 8; exact hg))
      omega
    | succ n ih =>
      intro a g f τ hb ha hg s t lo hi h0 h1
      have r := (sk_r (B := B) (N := N) (a := a))
      have r2 := r.2 ha.2
      have ir := iOf_r 3 (hr B N (sk B N a))
      have b := hB.r (a := sk B N a) (by omega)
      have nz : hr B N (sk B N a) ≠ 0 := fun z => by
        have := b.2.2 (by rw [z]; decide)
        omega
      have iw := iOf_W (k := 3) (c := hr B N (sk B N a)) (by decide) nz
      change iOf 3 (hr B N (sk B N a)) < 2 at iw
      have e4 : τ 64 4 = -1 := by rw [s.2 4 rfl]; exact h4
      unfold mIt at h0 h1
      have lt : iOf 3 (hr B N (sk B N a)) ≠ -1 → sk B N a < N := fun z => by
        by_cases c3 : hr B N (sk B N a) = -1
        · exact absurd (by rw [c3]; rfl) z
        · exact (b.2.2 c3).1
      have nsp := sk_n (B := B) (N := N) (a := a)
      have n59 : iOf 3 (hr B N (sk B N a)) ≠ -1 → ¬ hr B N (sk B N a) = 59 := fun z q => z (by rw [q]; rfl)
      have nm1 : iOf 3 (hr B N (sk B N a)) ≠ -1 → ¬ hr B N (sk B N a) = -1 := fun z q => z (by rw [q]; rfl)
      generalize iOf 3 (hr B N (sk B N a)) = i at *
      have hbt := hb_bt (s := g) (t := i)
      refine bR_items_r64_r78_41 ⟨by rw [e4]; decide, fun z => absurd e4 z, fun _ => ⟨⟨by omega, by omega⟩, fun z => ?_, fun z => ⟨fun y => ?_, fun y => ?_⟩⟩⟩
      · rw [if_pos z] at h1
        exact h1 _ f rfl τ s t lo hi
      · rw [if_neg z, if_pos ((hbt ⟨by omega, by omega⟩ ⟨by omega, by omega⟩).mp y)] at h0
        exact h0 _ rfl τ (s.mono (by decide) (by decide)) (Or.inr ⟨e4, t, n59 z, nm1 z, nsp⟩)
      · have nb : bt g i = false := Bool.eq_false_iff.mpr (fun q => y ((hbt ⟨by omega, by omega⟩ ⟨by omega, by omega⟩).mpr q))
        rw [if_neg z, if_neg (by rw [nb]; decide)] at h0 h1
        have l2 := lt z
        have c67 := cst67_r (j := 3 * 3 + i) ⟨by omega, by omega⟩
        have bc : bcF g ≤ 2 ∧ bcF (ins g i) = bcF g + 1 := by
          have e1 : g = ((g.toNat : Nat) : Int) := toN hg.1
          have e2 : i = ((i.toNat : Nat) : Int) := toN (by omega)
          have q := bc3 ⟨g.toNat, by omega⟩ ⟨i.toNat, by omega⟩ (by dsimp only; exact nb)
          dsimp only at q
          rw [← ins_n (by omega) (by omega), ← e1, ← e2] at q
          exact q
        have il := ins_lt (m := 3) (s := g) (t := i) ⟨by omega, by omega⟩ ⟨by omega, by omega⟩ (by decide)
        have t2 := t.to (sk B N a + 1)
        have s2 : Sm ω (ups τ 64 3 (sk B N a + 1)) [64, 78] [3] := s.ups rfl (Or.inr rfl)
        obtain ⟨-, q2⟩ := nmr_r hB (lo := cst 6 (3 * 3 + i)) (hi := cst 7 (3 * 3 + i)) (a := sk B N a + 1) ⟨by omega, by omega⟩
        obtain ⟨p2, -⟩ := nmr_r hB (lo := cst 6 (3 * 3 + i)) (hi := cst 7 (3 * 3 + i)) (a := sk B N a + 1) ⟨by omega, by omega⟩
        have g107 : ∀ s0, s0 = cst 6 (3 * 3 + i) → Ev (d + 4) mR_items 107 [vR 64, vI 99, vR 78, vI (2 * C), vI 2, vI (ins g i), vI i] [aI s0, aR 64, aI (2 * C + i), aR 78] (ups τ 64 3 (sk B N a + 1)) Q := by
          intro s0 hs0
          subst hs0
          have lo2 : ∀ j, 0 ≤ j → j < 2 → (ups τ 64 3 (sk B N a + 1)) 78 (2 * C + j) = f j := fun j j0 j1 => by rw [ups_ne (by decide)]; exact lo j j0 j1
          have hi2 : ∀ j, j < 2 * C → (ups τ 64 3 (sk B N a + 1)) 78 j = ω 78 j := fun j hj => by rw [ups_ne (by decide)]; exact hi j hj
          have f4 : (ups τ 64 3 (sk B N a + 1)) 64 4 = -1 := by rw [ups_fn (by decide)]; exact e4
          generalize (ups τ 64 3 (sk B N a + 1)) = τ2 at *
          refine bR_items_r64_r78_107 (highR (d + 2) (k := 3) (i := i) (by decide) ⟨by omega, iw⟩ (numR hB d ⟨by omega, by omega⟩ ⟨by omega, by omega⟩ ⟨by omega, by omega⟩ t2 f4 (fun w e τ3 v s3 ex e1 rv => ⟨(by omega), (by omega), ?_, fun x => ?_, fun x => ?_⟩) (fun a' v e τ3 s3 t3 => ⟨(by omega), (by omega), ?_, fun x => ?_, fun x => ?_⟩)))
          · have := p2 w e
            rw [e1]; exact ⟨by omega, by omega⟩
          · rw [e] at h0
            have sA : Sm ω (ups τ3 78 (2 * C + i) v) [64, 78] [3, 4] := ((s2.mono (by decide) (by decide)).trans (s3.mono (by decide) (by decide))).ups rfl (Or.inl (by decide))
            refine bR_items_r64_r78_41 ⟨?_, fun _ => h0 w rfl _ sA (Or.inl (by rw [ups_ne (by decide)]; exact e1)), fun q => absurd (by rw [ups_ne (by decide)] at q; exact q) x⟩
            have := p2 w e
            rw [ups_ne (by decide), e1]; exact ⟨by omega, by omega⟩
          · have := p2 w e
            rw [e1] at x; omega
          · rw [s3.2 4 rfl, f4]; decide
          · exact absurd (by rw [s3.2 4 rfl, f4]) x
          · rw [e] at h0 h1
            dsimp only at h0 h1
            have q3 := q2 a' v e
            have sA : Sm ω (ups τ3 78 (2 * C + i) v) [64, 78] [3] := (s2.trans (s3.mono (by decide) (by decide))).ups rfl (Or.inl (by decide))
            have tA : TqR (ups τ3 78 (2 * C + i) v) B N a' := t3.sm (S := [78]) (J := []) (Sm.refl.ups rfl (Or.inl (by decide))) rfl rfl rfl
            have rA : ∀ j, 0 ≤ j → j < 2 → (ups τ3 78 (2 * C + i) v) 78 (2 * C + j) = fu f i v j := fun j j0 j1 => by
              by_cases c : j = i
              · rw [c, ups_hit, fu_hit]
              · rw [ups_fn (by omega), fu_ne c, s3.1 78 rfl]; exact lo2 j j0 j1
            have hA : ∀ j, j < 2 * C → (ups τ3 78 (2 * C + i) v) 78 j = ω 78 j := fun j hj => by rw [ups_fn (by omega), s3.1 78 rfl]; exact hi2 j hj
            generalize (ups τ3 78 (2 * C + i) v) = τ4 at *
            refine lookR hB (d + 1) ⟨by omega, by omega⟩ tA (fun τ5 s5 t5 => ?_)
            have b5 := hB.r (a := sk B N a') (by have := (sk_r (B := B) (N := N) (a := a')).1; omega)
            have nz5 : hr B N (sk B N a') ≠ 0 := fun z => by
              have := b5.2.2 (by rw [z]; decide)
              omega
            refine itemR (d + 2) (k := 3) (by decide) ⟨by omega, by omega⟩ nz5 ?_
            exact ih a' (ins g i) (fu f i v) τ5 (by omega) ⟨by omega, by omega⟩ ⟨by omega, by omega⟩ (sA.trans (s5.mono (by decide) (by decide))) t5 (fun j j0 j1 => by rw [s5.1 78 rfl]; exact rA j j0 j1) (fun j hj => by rw [s5.1 78 rfl]; exact hA j hj) h0 h1
        rw [t.2.1]
        refine ⟨by decide, fun _ => g107 0 (by
          have e : i = 0 ∨ i = 1 ∨ i = 2 := by omega
          rcases e with e | e | e <;> subst e <;> rfl), fun x => absurd x (by decide)⟩
  refine bR_items_r64_r78_in ?_
  have st : ∀ (n : Nat) (i : Int) (τ : Mem) (u6 : Option AV), 0 ≤ i → i + (n : Int) = 2 → Sm ω τ [64, 78] [3] → TqR τ B N a → (∀ j, 0 ≤ j → j < i → τ 78 (2 * C + j) = usM 3 j) → (∀ j, j < 2 * C → τ 78 j = ω 78 j) → Ev (d + 4) mR_items 3 [vR 64, vI 99, vR 78, vI (2 * C), vI 2, vI i, u6] [] τ Q := by
    intro n
    induction n with
    | zero =>
      intro i τ u6 i0 i1 s t lo hi
      refine bR_items_r64_r78_3 ⟨⟨by omega, by omega⟩, by decide, fun _ => lookR hB (d + 1) ⟨by omega, by omega⟩ t (fun τ2 s2 t2 => ?_), fun z => absurd z (by omega)⟩
      have b5 := hB.r (a := sk B N a) (by have := (sk_r (B := B) (N := N) (a := a)).1; omega)
      have nz5 : hr B N (sk B N a) ≠ 0 := fun z => by
        have := b5.2.2 (by rw [z]; decide)
        omega
      refine itemR (d + 2) (k := 3) (by decide) ⟨by omega, by omega⟩ nz5 ?_
      exact loop 4 a 0 (usM 3) τ2 (by decide) ha (by decide) (s.trans (s2.mono (by decide) (by decide))) t2 (fun j j0 j1 => by rw [s2.1 78 rfl]; exact lo j j0 (by omega)) (fun j hj => by rw [s2.1 78 rfl]; exact hi j hj) h0 h1
    | succ n ih =>
      intro i τ u6 i0 i1 s t lo hi
      refine bR_items_r64_r78_3 ⟨⟨by omega, by omega⟩, by decide, fun z => absurd z (by omega), fun _ => usualR (d + 2) (k := 3) (i := i) (by decide) ⟨i0, by show i < 2; omega⟩ ⟨(by omega), (by omega), ?_⟩⟩
      refine ih (i + 1) _ u6 (by omega) (by omega) (s.ups rfl (Or.inl (by decide))) (t.sm (S := [78]) (J := []) (Sm.refl.ups rfl (Or.inl (by decide))) rfl rfl rfl) (fun j j0 j1 => ?_) (fun j hj => by rw [ups_fn (by omega)]; exact hi j hj)
      by_cases c : j = i
      · rw [c, ups_hit]
      · rw [ups_fn (by omega)]; exact lo j j0 (by omega)
  exact st 2 0 ω vU (by decide) (by decide) Sm.refl ht (fun j a b => absurd b (by omega)) (fun _ _ => rfl)
