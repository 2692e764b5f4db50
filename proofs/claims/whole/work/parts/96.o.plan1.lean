/-! ===== A PLAN READ: WHAT IT IS; THE CLASS ===== -/
def bnR {α β : Type} (x : Int ⊕ α) (k : α → Int ⊕ β) : Int ⊕ β := match x with
  | .inl w => .inl w
  | .inr r => k r
def dgt (B : Int → Int) (N a : Int) : Int ⊕ (Int × Int) := if dg (hr B N (sk B N a)) then .inr (sk B N a + 1, hr B N (sk B N a) - 48) else .inl (sk B N a)
theorem dgt_r {B : Int → Int} {N : Int} (hB : BTp B N) {a : Int} (ha : 0 ≤ a ∧ a ≤ N) : (∀ w, dgt B N a = .inl w → 0 ≤ w ∧ w ≤ N) ∧ ∀ a' v, dgt B N a = .inr (a', v) → (a < a' ∧ a' ≤ N) ∧ (0 ≤ v ∧ v ≤ 9) := by
  have r := (sk_r (B := B) (N := N) (a := a))
  have r2 := r.2 ha.2
  have b := hB.r (a := sk B N a) (by omega)
  unfold dgt
  by_cases c : dg (hr B N (sk B N a))
  · rw [if_pos c]
    have := (b.2.2 (by omega)).1
    exact ⟨fun w h => (by cases h), fun a' v h => (by injection h with h; injection h with h1 h2; omega)⟩
  · rw [if_neg c]
    exact ⟨fun w h => (by injection h with h; omega), fun a' v h => (by cases h)⟩
theorem digC {B : Int → Int} {N : Int} (hB : BTp B N) (d : Nat) {a : Int} {υ : Mem} (ha : 0 ≤ a ∧ a ≤ N) (ht : TqC υ B N a) {Q : RV → Mem → Prop} (h0 : ∀ w, dgt B N a = .inl w → ∀ τ, Sm υ τ [12] [] → τ 12 1 = N → τ 12 3 = w → Q (rI (-1)) τ) (h1 : ∀ a' v, dgt B N a = .inr (a', v) → ∀ τ, Sm υ τ [12] [] → TqC τ B N a' → Q (rI v) τ) : Cl (d + 2) mTa_digit [aR 12] υ Q := by
  have hN := hB.1
  have r := (sk_r (B := B) (N := N) (a := a))
  have r2 := r.2 ha.2
  have b := hB.r (a := sk B N a) (by omega)
  unfold dgt at h0 h1
  refine bTa_digit_in (sgC hB d ⟨by omega, by omega⟩ ht (fun τ s t => ⟨⟨by omega, by omega⟩, fun z => ?_, fun z => ⟨fun y => ?_, fun y => ?_⟩⟩))
  · rw [t.2.1]
    exact failC d t (fun τ2 s2 e1 e2 => h0 _ (if_neg (fun q => by omega)) τ2 (s.trans s2) e1 e2)
  · have := h1 _ _ (if_pos ⟨z, y⟩) (ups τ 12 2 (sk B N a + 1)) (s.ups rfl (Or.inl (by decide))) (t.to _)
    rw [t.2.1]
    exact this
  · rw [t.2.1]
    exact failC d t (fun τ2 s2 e1 e2 => h0 _ (if_neg (fun q => by omega)) τ2 (s.trans s2) e1 e2)
def stO (c : Int) : Int := if c = 100 then 3 else if c = 104 then 0 else if c = 115 then 1 else if c = 116 then 2 else -1
theorem stO_r (c : Int) : -1 ≤ stO c ∧ stO c ≤ 3 := by
  unfold stO; split
  · decide
  · split
    · decide
    · split
      · decide
      · split <;> decide
def stF (s a b c e : Int) : Int → Int := fun w => if w = 0 then s else if w = 1 then a else if w = 2 then b else if w = 3 then c else e
def pCm (B : Int → Int) (N a : Int) : Int ⊕ (Int × Int) := if hr B N (sk B N a) = 44 then nmr B N 0 99 (sk B N a + 1) else .inl (sk B N a)
/-- one step, from the byte a on -/
def pSt (B : Int → Int) (N a : Int) : Int ⊕ (Int × (Int → Int)) :=
  if stO (hr B N (sk B N a)) = -1 then .inl (sk B N a) else
  if stO (hr B N (sk B N a)) = 3 then .inr (sk B N a + 1, stF 3 (-1) (-1) (-1) (-1)) else
  bnR (dgt B N (sk B N a + 1)) (fun d1 => bnR (if stO (hr B N (sk B N a)) = 0 then .inr (d1.1, -1) else dgt B N d1.1) (fun d2 => bnR (dgt B N d2.1) (fun d3 =>
    if stO (hr B N (sk B N a)) = 1 then bnR (pCm B N d3.1) (fun d4 => .inr (d4.1, stF 1 d1.2 d2.2 d3.2 d4.2)) else .inr (d3.1, stF (stO (hr B N (sk B N a))) d1.2 d2.2 d3.2 (-1)))))
def pPl (B : Int → Int) (N : Int) : Nat → Int → Int → (Int → Int → Int) → Int ⊕ (Int × (Int → Int → Int))
  | 0, _, a, _ => .inl a
  | n + 1, i, a, S => bnR (pSt B N a) (fun r => if hr B N (sk B N r.1) = -1 then .inr (i + 1, fun j => if j = i then r.2 else S j) else if hr B N (sk B N r.1) = 59 ∧ n ≠ 0 then pPl B N n (i + 1) (sk B N r.1 + 1) (fun j => if j = i then r.2 else S j) else .inl (sk B N r.1))
theorem nm99 {B : Int → Int} {N a : Int} (hB : BTp B N) (ha : 0 ≤ a ∧ a ≤ N) : nmr B N 0 99 a = num B N 2 a := by
  obtain ⟨-, q⟩ := num_r hB (n := 2) ha
  unfold nmr
  cases e : num B N 2 a with
  | inl w => rfl
  | inr r =>
    obtain ⟨a', v⟩ := r
    have q1 := (q a' v e).2
    have hv : v < 100 := by have := q1.2; omega
    dsimp only
    rw [if_neg (by omega)]
theorem pCm_r {B : Int → Int} {N : Int} (hB : BTp B N) {a : Int} (ha : 0 ≤ a ∧ a ≤ N) : (∀ w, pCm B N a = .inl w → 0 ≤ w ∧ w ≤ N) ∧ ∀ a' v, pCm B N a = .inr (a', v) → (a < a' ∧ a' ≤ N) ∧ (0 ≤ v ∧ v ≤ 99) := by
  have r := (sk_r (B := B) (N := N) (a := a))
  have r2 := r.2 ha.2
  have b := hB.r (a := sk B N a) (by omega)
  unfold pCm
  by_cases c : hr B N (sk B N a) = 44
  · rw [if_pos c]
    have := (b.2.2 (by omega)).1
    obtain ⟨p, q⟩ := nmr_r hB (lo := 0) (hi := 99) (a := sk B N a + 1) ⟨by omega, by omega⟩
    exact ⟨p, fun a' v h => by have := q a' v h; omega⟩
  · rw [if_neg c]
    exact ⟨fun w h => (by injection h with h; omega), fun a' v h => (by cases h)⟩
theorem pSt_r {B : Int → Int} {N : Int} (hB : BTp B N) {a : Int} (ha : 0 ≤ a ∧ a ≤ N) : (∀ w, pSt B N a = .inl w → 0 ≤ w ∧ w ≤ N) ∧ ∀ a' f, pSt B N a = .inr (a', f) → (a < a' ∧ a' ≤ N) ∧ (0 ≤ f 0 ∧ f 0 ≤ 3) ∧ ∀ w, -1 ≤ f w ∧ f w ≤ 99 := by
  have r := (sk_r (B := B) (N := N) (a := a))
  have r2 := r.2 ha.2
  have b := hB.r (a := sk B N a) (by omega)
  have so := stO_r (hr B N (sk B N a))
  unfold pSt
  by_cases c : stO (hr B N (sk B N a)) = -1
  · rw [if_pos c]
    exact ⟨fun w h => (by injection h with h; omega), fun a' v h => (by cases h)⟩
  · rw [if_neg c]
    have lt : sk B N a < N := by
      by_cases c3 : hr B N (sk B N a) = -1
      · exact absurd (by rw [c3]; rfl) c
      · exact (b.2.2 c3).1
    generalize stO (hr B N (sk B N a)) = st at *
    have fr : ∀ a b c e : Int, (-1 ≤ a ∧ a ≤ 99) → (-1 ≤ b ∧ b ≤ 99) → (-1 ≤ c ∧ c ≤ 99) → (-1 ≤ e ∧ e ≤ 99) → (0 ≤ stF st a b c e 0 ∧ stF st a b c e 0 ≤ 3) ∧ ∀ w, -1 ≤ stF st a b c e w ∧ stF st a b c e w ≤ 99 := fun a b c e ha hb hc he => by
      refine ⟨by show 0 ≤ st ∧ st ≤ 3; omega, fun w => ?_⟩
      unfold stF
      split
      · omega
      · split
        · exact ha
        · split
          · exact hb
          · split
            · exact hc
            · exact he
    by_cases c3 : st = 3
    · rw [if_pos c3]
      refine ⟨fun w h => (by cases h), fun a' f h => ?_⟩
      injection h with h
      injection h with h1 h2
      have := fr (-1) (-1) (-1) (-1) (by decide) (by decide) (by decide) (by decide)
      rw [c3] at this
      rw [← h1, ← h2]
      exact ⟨⟨by omega, by omega⟩, this⟩
    · rw [if_neg c3]
      obtain ⟨p1, q1⟩ := dgt_r hB (a := sk B N a + 1) ⟨by omega, by omega⟩
      cases e1 : dgt B N (sk B N a + 1) with
      | inl w => exact ⟨fun w' h => (by injection h with h; rw [← h]; exact p1 w e1), fun a' v h => (by cases h)⟩
      | inr d1 =>
        obtain ⟨a1, v1⟩ := d1
        have t1 := q1 a1 v1 e1
        show (∀ w, bnR (if st = 0 then .inr (a1, -1) else dgt B N a1) _ = .inl w → _) ∧ ∀ a' f, bnR (if st = 0 then .inr (a1, -1) else dgt B N a1) _ = .inr (a', f) → _
        have t2 : (∀ w, (if st = 0 then Sum.inr (a1, -1) else dgt B N a1) = .inl w → 0 ≤ w ∧ w ≤ N) ∧ ∀ a' v, (if st = 0 then Sum.inr (a1, -1) else dgt B N a1) = .inr (a', v) → (a1 ≤ a' ∧ a' ≤ N) ∧ (-1 ≤ v ∧ v ≤ 9) := by
          by_cases c0 : st = 0
          · rw [if_pos c0]
            exact ⟨fun w h => (by cases h), fun a' v h => (by injection h with h; injection h with h1 h2; omega)⟩
          · rw [if_neg c0]
            obtain ⟨p2, q2⟩ := dgt_r hB (a := a1) ⟨by omega, by omega⟩
            exact ⟨p2, fun a' v h => by have := q2 a' v h; omega⟩
        cases e2 : (if st = 0 then Sum.inr (a1, -1) else dgt B N a1) with
        | inl w => exact ⟨fun w' h => (by injection h with h; rw [← h]; exact t2.1 w e2), fun a' v h => (by cases h)⟩
        | inr d2 =>
          obtain ⟨a2, v2⟩ := d2
          have t2' := t2.2 a2 v2 e2
          obtain ⟨p3, q3⟩ := dgt_r hB (a := a2) ⟨by omega, by omega⟩
          show (∀ w, bnR (dgt B N a2) _ = .inl w → _) ∧ ∀ a' f, bnR (dgt B N a2) _ = .inr (a', f) → _
          cases e3 : dgt B N a2 with
          | inl w => exact ⟨fun w' h => (by injection h with h; rw [← h]; exact p3 w e3), fun a' v h => (by cases h)⟩
          | inr d3 =>
            obtain ⟨a3, v3⟩ := d3
            have t3 := q3 a3 v3 e3
            show (∀ w, (if st = 1 then bnR (pCm B N a3) (fun d4 => .inr (d4.1, stF 1 v1 v2 v3 d4.2)) else .inr (a3, stF st v1 v2 v3 (-1))) = .inl w → _) ∧ ∀ a' f, (if st = 1 then bnR (pCm B N a3) (fun d4 => .inr (d4.1, stF 1 v1 v2 v3 d4.2)) else .inr (a3, stF st v1 v2 v3 (-1))) = .inr (a', f) → _
            by_cases c1 : st = 1
            · rw [if_pos c1]
              obtain ⟨p4, q4⟩ := pCm_r hB (a := a3) ⟨by omega, by omega⟩
              cases e4 : pCm B N a3 with
              | inl w => exact ⟨fun w' h => (by injection h with h; rw [← h]; exact p4 w e4), fun a' v h => (by cases h)⟩
              | inr d4 =>
                obtain ⟨a4, v4⟩ := d4
                have t4 := q4 a4 v4 e4
                refine ⟨fun w h => (by cases h), fun a' f h => ?_⟩
                injection h with h
                injection h with h1 h2
                have := fr v1 v2 v3 v4 ⟨by omega, by omega⟩ ⟨by omega, by omega⟩ ⟨by omega, by omega⟩ ⟨by omega, by omega⟩
                rw [c1] at this
                rw [← h1, ← h2]
                exact ⟨⟨by omega, by omega⟩, this⟩
            · rw [if_neg c1]
              refine ⟨fun w h => (by cases h), fun a' f h => ?_⟩
              injection h with h
              injection h with h1 h2
              have := fr v1 v2 v3 (-1) ⟨by omega, by omega⟩ ⟨by omega, by omega⟩ ⟨by omega, by omega⟩ (by decide)
              rw [← h1, ← h2]
              exact ⟨⟨by omega, by omega⟩, this⟩
theorem pstepC {B : Int → Int} {N : Int} (hB : BTp B N) (d : Nat) {a n F : Int} {υ : Mem} (h29 : υ 29 3 = n) (hn : 0 ≤ n ∧ n < 5) (hF : 0 ≤ F ∧ F ≤ 55) (ha : 0 ≤ a ∧ a ≤ N) (ht : TqC υ B N a) (hm : ∀ q, F ≤ q → q < F + 5 → υ 30 (n * 60 + q) = -1) {Q : RV → Mem → Prop}
    (h0 : ∀ w, pSt B N a = .inl w → ∀ τ, Sm υ τ [12, 30] [] → (∀ j, ¬ (n * 60 + F ≤ j ∧ j < n * 60 + F + 5) → τ 30 j = υ 30 j) → τ 12 1 = N → τ 12 3 = w → Q (rI 0) τ)
    (h1 : ∀ a' f, pSt B N a = .inr (a', f) → ∀ τ, Sm υ τ [12, 30] [] → (∀ j, ¬ (n * 60 + F ≤ j ∧ j < n * 60 + F + 5) → τ 30 j = υ 30 j) → TqC τ B N a' → (∀ w, 0 ≤ w → w < 5 → τ 30 (n * 60 + (F + w)) = f w) → Q (rI 1) τ) : Cl (d + 3) mPl_readStep [aR 29, aI F] υ Q := by
  have hN := hB.1
  have r := (sk_r (B := B) (N := N) (a := a))
  have r2 := r.2 ha.2
  have b := hB.r (a := sk B N a) (by omega)
  have so := stO_r (hr B N (sk B N a))
  unfold pSt at h0 h1
  -- the sort
  have srt : ∀ (c : Int) (τ : Mem) (Q : RV → Mem → Prop), rg c → Q (rI (stO c)) τ → Cl (d + 2) mPl_sortOf [aI c] τ Q := by
    intro c τ Q hc hq
    unfold stO at hq
    refine bPl_sortOf_in (d := d + 1) ⟨hc, fun z => ?_, fun z => ⟨fun z2 => ?_, fun z2 => ⟨fun z3 => ?_, fun z3 => ⟨fun z4 => ?_, fun z4 => ?_⟩⟩⟩⟩
    · rw [if_pos z] at hq; exact hq
    · rw [if_neg z, if_pos z2] at hq; exact hq
    · rw [if_neg z, if_neg z2, if_pos z3] at hq; exact hq
    · rw [if_neg z, if_neg z2, if_neg z3, if_pos z4] at hq; exact hq
    · rw [if_neg z, if_neg z2, if_neg z3, if_neg z4] at hq; exact hq
  refine bPl_readStep_in ⟨by rw [h29]; omega, by rw [h29]; omega, sgC hB (d + 1) ⟨by omega, by omega⟩ ht (fun τ s t => srt _ τ _ ⟨by omega, by omega⟩ ⟨⟨by omega, by omega⟩, fun z => ?_, fun z => ?_⟩)⟩
  · rw [if_neg z] at h0 h1
    have lt : sk B N a < N := by
      by_cases c3 : hr B N (sk B N a) = -1
      · exact absurd (by rw [c3]; rfl) z
      · exact (b.2.2 c3).1
    generalize stO (hr B N (sk B N a)) = st at *
    intro μ7 e7
    refine ⟨(by omega), (by omega), fun μ8 e8 => ?_⟩
    rw [h29] at e8
    have t7 : TqC μ7 B N (sk B N a + 1) := by rw [e7, t.2.1]; exact t.to _
    have s8 : Sm υ μ8 [12, 30] [] := by rw [e8, e7]; exact ((s.mono (by decide) (by decide)).ups rfl (Or.inl (by decide))).ups rfl (Or.inl (by decide))
    have t8 : TqC μ8 B N (sk B N a + 1) := by rw [e8]; exact t7.sm (S := [30]) (J := []) (Sm.refl.ups rfl (Or.inl (by decide))) rfl rfl
    have g8 : μ8 30 = fu (υ 30) (n * 60 + (F + 0)) st := by rw [e8, ups_row, e7, ups_ne (by decide), s.1 30 rfl]
    refine ⟨fun z3 => ?_, fun z3 => ?_⟩
    · rw [if_neg z3] at h0 h1
      obtain ⟨p1, q1⟩ := dgt_r hB (a := sk B N a + 1) ⟨by omega, by omega⟩
      refine digC hB d ⟨by omega, by omega⟩ t8 (fun w ei τ2 s2 e1 e2 => ⟨(by omega), (by omega), fun μ12 e12 => ?_⟩) (fun a1 v1 ei τ2 s2 t2 => ⟨(by omega), (by omega), fun μ12 e12 => ?_⟩)
      · rw [h29] at e12
        rw [ei] at h0
        have g12 : μ12 30 = fu (fu (υ 30) (n * 60 + (F + 0)) st) (n * 60 + (F + 1)) (-1) := by rw [e12, ups_row, s2.1 30 rfl, g8]
        have c : μ12 30 (n * 60 + (F + 1)) = -1 := by rw [g12, fu_hit]
        rw [h29]
        refine ⟨by rw [c]; decide, fun q => absurd c q, fun _ => h0 w rfl μ12 ?_ (fun j hj => ?_) ?_ ?_⟩
        · rw [e12]; exact (s8.trans (s2.mono (by decide) (by decide))).ups rfl (Or.inl (by decide))
        · rw [g12, fu_ne (by omega), fu_ne (by omega)]
        · rw [e12, ups_ne (by decide)]; exact e1
        · rw [e12, ups_ne (by decide)]; exact e2
      · rw [h29] at e12
        rw [ei] at h0 h1
        have r1 := q1 a1 v1 ei
        have g12 : μ12 30 = fu (fu (υ 30) (n * 60 + (F + 0)) st) (n * 60 + (F + 1)) v1 := by rw [e12, ups_row, s2.1 30 rfl, g8]
        have c : μ12 30 (n * 60 + (F + 1)) = v1 := by rw [g12, fu_hit]
        have s12 : Sm υ μ12 [12, 30] [] := by rw [e12]; exact (s8.trans (s2.mono (by decide) (by decide))).ups rfl (Or.inl (by decide))
        have t12 : TqC μ12 B N a1 := by rw [e12]; exact t2.sm (S := [30]) (J := []) (Sm.refl.ups rfl (Or.inl (by decide))) rfl rfl
        -- the thing, and the price
        have tail : ∀ (a2 v2 : Int) (μ : Mem), (0 ≤ a2 ∧ a2 ≤ N) → (∀ w, bnR (dgt B N a2) (fun d3 => if st = 1 then bnR (pCm B N d3.1) (fun d4 => .inr (d4.1, stF 1 v1 v2 d3.2 d4.2)) else .inr (d3.1, stF st v1 v2 d3.2 (-1))) = .inl w → ∀ τ, Sm υ τ [12, 30] [] → (∀ j, ¬ (n * 60 + F ≤ j ∧ j < n * 60 + F + 5) → τ 30 j = υ 30 j) → τ 12 1 = N → τ 12 3 = w → Q (rI 0) τ) → (∀ a' f, bnR (dgt B N a2) (fun d3 => if st = 1 then bnR (pCm B N d3.1) (fun d4 => .inr (d4.1, stF 1 v1 v2 d3.2 d4.2)) else .inr (d3.1, stF st v1 v2 d3.2 (-1))) = .inr (a', f) → ∀ τ, Sm υ τ [12, 30] [] → (∀ j, ¬ (n * 60 + F ≤ j ∧ j < n * 60 + F + 5) → τ 30 j = υ 30 j) → TqC τ B N a' → (∀ w, 0 ≤ w → w < 5 → τ 30 (n * 60 + (F + w)) = f w) → Q (rI 1) τ) → Sm υ μ [12, 30] [] → TqC μ B N a2 → (∀ j, ¬ (n * 60 + F ≤ j ∧ j < n * 60 + F + 5) → μ 30 j = υ 30 j) → μ 30 (n * 60 + (F + 0)) = st → μ 30 (n * 60 + (F + 1)) = v1 → μ 30 (n * 60 + (F + 2)) = v2 → μ 30 (n * 60 + (F + 4)) = -1 → Ev (d + 3) mPl_readStep 117 [vR 29, vI F, vW 30 n, vI st] [] μ Q := by
          intro a2 v2 μ ha2 h0 h1 sμ tμ fμ w0 w1 w2 w4
          obtain ⟨p3, q3⟩ := dgt_r hB (a := a2) ha2
          refine bPl_readStep_117 (digC hB d ha2 tμ (fun w ei τ3 s3 e1 e2 => ⟨(by omega), (by omega), (by omega), (by omega), fun μ4 e4 => ?_⟩) (fun a3 v3 ei τ3 s3 t3 => ⟨(by omega), (by omega), (by omega), (by omega), fun μ4 e4 => ?_⟩))
          · rw [ei] at h0
            have c : μ4 30 (n * 60 + (F + 3)) = -1 := by rw [e4, ups_hit]
            refine ⟨by rw [c]; decide, fun q => absurd c q, fun _ => h0 w rfl μ4 ?_ (fun j hj => ?_) ?_ ?_⟩
            · rw [e4]; exact (sμ.trans (s3.mono (by decide) (by decide))).ups rfl (Or.inl (by decide))
            · rw [e4, ups_fn (by omega), s3.1 30 rfl]; exact fμ j hj
            · rw [e4, ups_ne (by decide)]; exact e1
            · rw [e4, ups_ne (by decide)]; exact e2
          · rw [ei] at h0 h1
            have r3 := q3 a3 v3 ei
            have c : μ4 30 (n * 60 + (F + 3)) = v3 := by rw [e4, ups_hit]
            have s4 : Sm υ μ4 [12, 30] [] := by rw [e4]; exact (sμ.trans (s3.mono (by decide) (by decide))).ups rfl (Or.inl (by decide))
            have t4 : TqC μ4 B N a3 := by rw [e4]; exact t3.sm (S := [30]) (J := []) (Sm.refl.ups rfl (Or.inl (by decide))) rfl rfl
            have f4 : ∀ j, j ≠ n * 60 + (F + 3) → μ4 30 j = μ 30 j := fun j hj => by rw [e4, ups_fn hj, s3.1 30 rfl]
            have fo : ∀ j, ¬ (n * 60 + F ≤ j ∧ j < n * 60 + F + 5) → μ4 30 j = υ 30 j := fun j hj => by rw [f4 j (by omega)]; exact fμ j hj
            refine ⟨by rw [c]; exact ⟨by omega, by omega⟩, fun _ => ⟨⟨by omega, by omega⟩, fun z1 => ?_, fun z1 => ?_⟩, fun q => absurd q (by rw [c]; omega)⟩
            · have un : ∀ w : Int, bnR (Sum.inr (a3, v3)) (fun d3 : Int × Int => if st = 1 then bnR (pCm B N d3.1) (fun d4 => Sum.inr (d4.1, stF 1 v1 v2 d3.2 d4.2)) else .inr (d3.1, stF st v1 v2 d3.2 (-1))) = bnR (pCm B N a3) (fun d4 => Sum.inr (d4.1, stF 1 v1 v2 v3 d4.2)) := fun _ => if_pos z1
              rw [un 0] at h0 h1
              unfold pCm at h0 h1
              have rr := (sk_r (B := B) (N := N) (a := a3))
              have rr2 := rr.2 r3.1.2
              refine expC hB d ⟨by omega, by omega⟩ (by decide) t4 (fun y τ5 s5 t5 => ⟨by decide, fun _ => ?_, fun q => absurd q (by decide)⟩) (fun y τ5 s5 e1 e2 => ⟨by decide, fun q => absurd rfl q, fun _ => ?_⟩)
              · rw [if_pos y] at h0 h1
                have b5 := hB.r (a := sk B N a3) (by omega)
                have lt5 := (b5.2.2 (by omega)).1
                rw [nm99 hB ⟨by omega, by omega⟩] at h0 h1
                obtain ⟨p5, q5⟩ := num_r hB (n := 2) (a := sk B N a3 + 1) ⟨by omega, by omega⟩
                refine numC hB d (n := 2) (by decide) ⟨by omega, by omega⟩ t5 (fun w ej τ6 s6 e1 e2 => ⟨(by omega), (by omega), fun μ11 e11 => ?_⟩) (fun a4 v4 ej τ6 s6 t6 => ⟨(by omega), (by omega), fun μ11 e11 => ?_⟩)
                · rw [ej] at h0
                  have c5 : μ11 30 (n * 60 + (F + 4)) = -1 := by rw [e11, ups_hit]
                  refine ⟨by rw [c5]; decide, fun _ => h0 w rfl μ11 ?_ (fun j hj => ?_) ?_ ?_, fun q => absurd c5 q⟩
                  · rw [e11]; exact ((s4.trans (s5.mono (by decide) (by decide))).trans (s6.mono (by decide) (by decide))).ups rfl (Or.inl (by decide))
                  · rw [e11, ups_fn (by omega), s6.1 30 rfl, s5.1 30 rfl]; exact fo j hj
                  · rw [e11, ups_ne (by decide)]; exact e1
                  · rw [e11, ups_ne (by decide)]; exact e2
                · rw [ej] at h1
                  have r5 := q5 a4 v4 ej
                  have hv : v4 < 100 := by have := r5.2.2; omega
                  have c5 : μ11 30 (n * 60 + (F + 4)) = v4 := by rw [e11, ups_hit]
                  have f5 : ∀ j, j ≠ n * 60 + (F + 4) → μ11 30 j = μ4 30 j := fun j hj => by rw [e11, ups_fn hj, s6.1 30 rfl, s5.1 30 rfl]
                  refine ⟨by rw [c5]; exact ⟨by omega, by omega⟩, fun q => absurd q (by rw [c5]; omega), fun _ => h1 a4 _ rfl μ11 ?_ (fun j hj => ?_) ?_ (fun w w0' w1' => ?_)⟩
                  · rw [e11]; exact ((s4.trans (s5.mono (by decide) (by decide))).trans (s6.mono (by decide) (by decide))).ups rfl (Or.inl (by decide))
                  · rw [f5 j (by omega)]; exact fo j hj
                  · rw [e11]; exact t6.sm (S := [30]) (J := []) (Sm.refl.ups rfl (Or.inl (by decide))) rfl rfl
                  · have hw : w = 0 ∨ w = 1 ∨ w = 2 ∨ w = 3 ∨ w = 4 := by omega
                    rcases hw with e | e | e | e | e <;> subst e
                    · rw [f5 _ (by omega), f4 _ (by omega), w0, z1]; rfl
                    · rw [f5 _ (by omega), f4 _ (by omega), w1]; rfl
                    · rw [f5 _ (by omega), f4 _ (by omega), w2]; rfl
                    · rw [f5 _ (by omega), c]; rfl
                    · rw [c5]; rfl
              · rw [if_neg y] at h0
                exact h0 _ rfl τ5 (s4.trans (s5.mono (by decide) (by decide))) (fun j hj => by rw [s5.1 30 rfl]; exact fo j hj) e1 e2
            · have un : ∀ w : Int, bnR (Sum.inr (a3, v3)) (fun d3 : Int × Int => if st = 1 then bnR (pCm B N d3.1) (fun d4 => Sum.inr (d4.1, stF 1 v1 v2 d3.2 d4.2)) else .inr (d3.1, stF st v1 v2 d3.2 (-1))) = Sum.inr (a3, stF st v1 v2 v3 (-1)) := fun _ => if_neg z1
              rw [un 0] at h1
              refine h1 a3 _ rfl μ4 s4 fo t4 (fun w w0' w1' => ?_)
              have hw : w = 0 ∨ w = 1 ∨ w = 2 ∨ w = 3 ∨ w = 4 := by omega
              rcases hw with e | e | e | e | e <;> subst e
              · rw [f4 _ (by omega), w0]; rfl
              · rw [f4 _ (by omega), w1]; rfl
              · rw [f4 _ (by omega), w2]; rfl
              · rw [c]; rfl
              · rw [f4 _ (by omega), w4]; rfl
        have fo12 : ∀ j, ¬ (n * 60 + F ≤ j ∧ j < n * 60 + F + 5) → μ12 30 j = υ 30 j := fun j hj => by rw [g12, fu_ne (by omega), fu_ne (by omega)]
        rw [h29]
        refine ⟨by rw [c]; exact ⟨by omega, by omega⟩, fun _ => ⟨fun z0 => ?_, fun z0 => ?_⟩, fun q => absurd q (by rw [c]; omega)⟩
        · have un : ∀ k : Int × Int → Int ⊕ (Int × (Int → Int)), bnR (if st = 0 then Sum.inr (a1, -1) else dgt B N a1) k = k (a1, -1) := fun k => by rw [if_pos z0]; rfl
          change (∀ w, bnR (if st = 0 then Sum.inr (a1, -1) else dgt B N a1) _ = .inl w → _) at h0
          change (∀ a' f, bnR (if st = 0 then Sum.inr (a1, -1) else dgt B N a1) _ = .inr (a', f) → _) at h1
          rw [un] at h0 h1
          refine tail a1 (-1) μ12 ⟨by omega, by omega⟩ h0 h1 s12 t12 fo12 ?_ c ?_ ?_
          · rw [g12, fu_ne (by omega), fu_hit]
          · rw [g12, fu_ne (by omega), fu_ne (by omega)]; exact hm _ (by omega) (by omega)
          · rw [g12, fu_ne (by omega), fu_ne (by omega)]; exact hm _ (by omega) (by omega)
        · change (∀ w, bnR (if st = 0 then Sum.inr (a1, -1) else dgt B N a1) _ = .inl w → _) at h0
          change (∀ a' f, bnR (if st = 0 then Sum.inr (a1, -1) else dgt B N a1) _ = .inr (a', f) → _) at h1
          rw [if_neg z0] at h0 h1
          obtain ⟨p2, q2⟩ := dgt_r hB (a := a1) ⟨by omega, by omega⟩
          refine digC hB d ⟨by omega, by omega⟩ t12 (fun w ej τ3 s3 e1 e2 => ⟨(by omega), (by omega), fun μ16 e16 => ?_⟩) (fun a2 v2 ej τ3 s3 t3 => ⟨(by omega), (by omega), fun μ16 e16 => ?_⟩)
          · rw [ej] at h0
            have c5 : μ16 30 (n * 60 + (F + 2)) = -1 := by rw [e16, ups_hit]
            refine ⟨by rw [c5]; decide, fun q => absurd c5 q, fun _ => h0 w rfl μ16 ?_ (fun j hj => ?_) ?_ ?_⟩
            · rw [e16]; exact (s12.trans (s3.mono (by decide) (by decide))).ups rfl (Or.inl (by decide))
            · rw [e16, ups_fn (by omega), s3.1 30 rfl]; exact fo12 j hj
            · rw [e16, ups_ne (by decide)]; exact e1
            · rw [e16, ups_ne (by decide)]; exact e2
          · rw [ej] at h0 h1
            have r5 := q2 a2 v2 ej
            have c5 : μ16 30 (n * 60 + (F + 2)) = v2 := by rw [e16, ups_hit]
            have f5 : ∀ j, j ≠ n * 60 + (F + 2) → μ16 30 j = μ12 30 j := fun j hj => by rw [e16, ups_fn hj, s3.1 30 rfl]
            refine ⟨by rw [c5]; exact ⟨by omega, by omega⟩, fun _ => ?_, fun q => absurd q (by rw [c5]; omega)⟩
            refine tail a2 v2 μ16 ⟨by omega, by omega⟩ h0 h1 ?_ ?_ (fun j hj => by rw [f5 j (by omega)]; exact fo12 j hj) ?_ ?_ c5 ?_
            · rw [e16]; exact (s12.trans (s3.mono (by decide) (by decide))).ups rfl (Or.inl (by decide))
            · rw [e16]; exact t3.sm (S := [30]) (J := []) (Sm.refl.ups rfl (Or.inl (by decide))) rfl rfl
            · rw [f5 _ (by omega), g12, fu_ne (by omega), fu_hit]
            · rw [f5 _ (by omega)]; exact c
            · rw [f5 _ (by omega), g12, fu_ne (by omega), fu_ne (by omega)]; exact hm _ (by omega) (by omega)
    · rw [if_pos z3] at h1
      refine h1 _ _ rfl μ8 s8 (fun j hj => by rw [g8, fu_ne (by omega)]) t8 (fun w w0 w1 => ?_)
      have hw : w = 0 ∨ w = 1 ∨ w = 2 ∨ w = 3 ∨ w = 4 := by omega
      rcases hw with e | e | e | e | e <;> subst e
      · rw [g8, fu_hit, z3]; rfl
      · rw [g8, fu_ne (by omega)]; exact hm _ (by omega) (by omega)
      · rw [g8, fu_ne (by omega)]; exact hm _ (by omega) (by omega)
      · rw [g8, fu_ne (by omega)]; exact hm _ (by omega) (by omega)
      · rw [g8, fu_ne (by omega)]; exact hm _ (by omega) (by omega)
  · rw [if_pos z] at h0
    rw [t.2.1]
    exact failC (d + 1) t (fun τ2 s2 e1 e2 => ⟨by decide, h0 _ rfl τ2 ((s.trans s2).mono (by decide) (by decide)) (fun j _ => by rw [s2.1 30 rfl, s.1 30 rfl]) e1 e2⟩)
theorem pspareC {B : Int → Int} {N : Int} (hB : BTp B N) (d : Nat) {n : Int} (hn : 0 ≤ n ∧ n < 5) {Q : RV → Mem → Prop} : ∀ (k : Nat) (i a : Int) (S : Int → Int → Int) (υ : Mem), 0 ≤ i → i + (k : Int) = 12 → υ 29 3 = n → 0 ≤ a ∧ a ≤ N → TqC υ B N a → (k = 0 → ¬ hr B N a = 32) → (∀ q, 5 * i ≤ q → q < 60 → υ 30 (n * 60 + q) = -1) → (∀ j w, 0 ≤ j → j < i → 0 ≤ w → w < 5 → υ 30 (n * 60 + (5 * j + w)) = S j w) → (∀ w, pPl B N k i a S = .inl w → ∀ τ, Sm υ τ [12, 30, 36] [] → (∀ j, ¬ (n * 60 ≤ j ∧ j < n * 60 + 60) → τ 30 j = υ 30 j) → (∀ j, j ≠ n → τ 36 j = υ 36 j) → τ 12 1 = N → τ 12 3 = w → Q (rI 0) τ) → (∀ c S', pPl B N k i a S = .inr (c, S') → ∀ τ, Sm υ τ [12, 30, 36] [] → (∀ j, ¬ (n * 60 ≤ j ∧ j < n * 60 + 60) → τ 30 j = υ 30 j) → (∀ j, j ≠ n → τ 36 j = υ 36 j) → τ 12 1 = N → τ 36 n = c → (∀ j w, 0 ≤ j → j < c → 0 ≤ w → w < 5 → τ 30 (n * 60 + (5 * j + w)) = S' j w) → Q (rI 1) τ) → Ev (d + 4) mPl_readSpare 22 [vR 29, vI i] [] υ Q
  | 0, i, a, S, υ, i0, i1, h29, ha, ht, h32, hm, hS, h0, h1 => by
    refine bPl_readSpare_22 ⟨⟨by omega, by omega⟩, fun _ => ?_, fun z => absurd z (by omega)⟩
    rw [ht.2.1]
    exact failC (d + 2) ht (fun τ s e1 e2 => ⟨by decide, h0 a rfl τ (s.mono (by decide) (by decide)) (fun j _ => by rw [s.1 30 rfl]) (fun j _ => by rw [s.1 36 rfl]) e1 e2⟩)
  | k + 1, i, a, S, υ, i0, i1, h29, ha, ht, h32, hm, hS, h0, h1 => by
    have hN := hB.1
    obtain ⟨p, q⟩ := pSt_r hB ha
    unfold pPl at h0 h1
    refine bPl_readSpare_22 ⟨⟨by omega, by omega⟩, fun z => absurd z (by omega), fun _ => pstepC hB d (F := i * 5) h29 hn ⟨by omega, by omega⟩ ha ht (fun q a b => hm q (by omega) (by omega)) (fun w e τ s f e1 e2 => ⟨by decide, fun z => absurd rfl z, fun _ => ?_⟩) (fun a' f e τ s fr t rw' => ⟨by decide, fun _ => ?_, fun z => absurd z (by decide)⟩)⟩
    · rw [e] at h0
      exact h0 w rfl τ (s.mono (by decide) (by decide)) (fun j hj => f j (by omega)) (fun j _ => by rw [s.1 36 rfl]) e1 e2
    · rw [e] at h0 h1
      obtain ⟨q1, q2, q3⟩ := q a' f e
      have r := (sk_r (B := B) (N := N) (a := a'))
      have r2 := r.2 q1.2
      have nsp := sk_n (B := B) (N := N) (a := a')
      change (∀ w, (if hr B N (sk B N a') = -1 then Sum.inr (i + 1, fun j => if j = i then f else S j) else if hr B N (sk B N a') = 59 ∧ k ≠ 0 then pPl B N k (i + 1) (sk B N a' + 1) (fun j => if j = i then f else S j) else .inl (sk B N a')) = .inl w → _) at h0
      change (∀ c S', (if hr B N (sk B N a') = -1 then Sum.inr (i + 1, fun j => if j = i then f else S j) else if hr B N (sk B N a') = 59 ∧ k ≠ 0 then pPl B N k (i + 1) (sk B N a' + 1) (fun j => if j = i then f else S j) else .inl (sk B N a')) = .inr (c, S') → _) at h1
      have s3 : Sm υ τ [12, 30, 36] [] := s.mono (by decide) (by decide)
      have rows : ∀ j w, 0 ≤ j → j < i + 1 → 0 ≤ w → w < 5 → τ 30 (n * 60 + (5 * j + w)) = (if j = i then f else S j) w := fun j w j0 j1 w0 w1 => by
        by_cases c : j = i
        · rw [if_pos c, c, show 5 * i + w = i * 5 + w by omega]; exact rw' w w0 w1
        · rw [if_neg c, fr _ (by omega)]; exact hS j w j0 (by omega) w0 w1
      have fo : ∀ j, ¬ (n * 60 ≤ j ∧ j < n * 60 + 60) → τ 30 j = υ 30 j := fun j hj => fr j (by omega)
      have m1 : ∀ q, 5 * (i + 1) ≤ q → q < 60 → τ 30 (n * 60 + q) = -1 := fun q a b => by rw [fr _ (by omega)]; exact hm q (by omega) b
      refine overC hB (d + 1) ⟨by omega, by omega⟩ t (fun z τ2 s2 t2 => ⟨by decide, fun y => absurd y (by decide), fun _ => ?_⟩) (fun z τ2 s2 t2 => ⟨by decide, fun _ => ?_, fun y => absurd rfl y⟩)
      · rw [if_pos z] at h1
        have e29 : τ2 29 3 = n := by rw [s2.1 29 rfl, s.1 29 rfl]; exact h29
        rw [e29]
        refine ⟨hn.1, hn.2, h1 _ _ rfl _ ((s3.trans (s2.mono (by decide) (by decide))).ups rfl (Or.inl (by decide))) (fun j hj => by rw [ups_ne (by decide), s2.1 30 rfl]; exact fo j hj) (fun j hj => by rw [ups_fn hj, s2.1 36 rfl, s.1 36 rfl]) (by rw [ups_ne (by decide)]; exact t2.1) ups_hit (fun j w j0 j1 w0 w1 => by rw [ups_ne (by decide), s2.1 30 rfl]; exact rows j w j0 j1 w0 w1)⟩
      · rw [if_neg z] at h0 h1
        have b := hB.r (a := sk B N a') (by omega)
        have lt := (b.2.2 z).1
        have sB : Sm υ τ2 [12, 30, 36] [] := s3.trans (s2.mono (by decide) (by decide))
        have e29 : τ2 29 3 = n := by rw [s2.1 29 rfl, s.1 29 rfl]; exact h29
        refine ⟨⟨by omega, by omega⟩, fun y => ?_, fun y => expC hB (d + 1) ⟨by omega, by omega⟩ (by decide) t2 (fun x τ3 s4 t3 => ⟨by decide, fun _ => ?_, fun x => absurd x (by decide)⟩) (fun x τ3 s4 e1 e2 => ⟨by decide, fun q => absurd rfl q, fun _ => ?_⟩)⟩
        · have k0 : k = 0 := by omega
          subst k0
          rw [if_neg (fun q => q.2 rfl)] at h0
          refine pspareC hB d hn 0 (i + 1) (sk B N a') (fun j => if j = i then f else S j) τ2 (by omega) (by omega) e29 ⟨by omega, by omega⟩ t2 (fun _ => nsp) (fun q a b => by rw [s2.1 30 rfl]; exact m1 q a b) (fun j w j0 j1 w0 w1 => by rw [s2.1 30 rfl]; exact rows j w j0 j1 w0 w1) (fun w e τ4 s5 f5 g5 e1 e2 => ?_) (fun c S' e => by cases e)
          injection e with e
          exact h0 w (by rw [e]) τ4 (sB.trans s5) (fun j hj => by rw [f5 j hj, s2.1 30 rfl]; exact fo j hj) (fun j hj => by rw [g5 j hj, s2.1 36 rfl, s.1 36 rfl]) e1 e2
        · rw [sk_id nsp] at x t3
          rw [if_pos ⟨x, by omega⟩] at h0 h1
          have sC : Sm υ τ3 [12, 30, 36] [] := sB.trans (s4.mono (by decide) (by decide))
          exact pspareC hB d hn k (i + 1) (sk B N a' + 1) (fun j => if j = i then f else S j) τ3 (by omega) (by omega) (by rw [s4.1 29 rfl]; exact e29) ⟨by omega, by omega⟩ t3 (fun q => absurd q (by omega)) (fun q a b => by rw [s4.1 30 rfl, s2.1 30 rfl]; exact m1 q a b) (fun j w j0 j1 w0 w1 => by rw [s4.1 30 rfl, s2.1 30 rfl]; exact rows j w j0 j1 w0 w1) (fun w e τ4 s5 f5 g5 e1 e2 => h0 w e τ4 (sC.trans s5) (fun j hj => by rw [f5 j hj, s4.1 30 rfl, s2.1 30 rfl]; exact fo j hj) (fun j hj => by rw [g5 j hj, s4.1 36 rfl, s2.1 36 rfl, s.1 36 rfl]) e1 e2) (fun c S' e τ4 s5 f5 g5 e1 e3 r5 => h1 c S' e τ4 (sC.trans s5) (fun j hj => by rw [f5 j hj, s4.1 30 rfl, s2.1 30 rfl]; exact fo j hj) (fun j hj => by rw [g5 j hj, s4.1 36 rfl, s2.1 36 rfl, s.1 36 rfl]) e1 e3 r5)
        · rw [sk_id nsp] at x e2
          rw [if_neg (fun q => x q.1)] at h0
          exact h0 _ rfl τ3 (sB.trans (s4.mono (by decide) (by decide))) (fun j hj => by rw [s4.1 30 rfl, s2.1 30 rfl]; exact fo j hj) (fun j hj => by rw [s4.1 36 rfl, s2.1 36 rfl, s.1 36 rfl]) e1 e2
theorem planC {B : Int → Int} {N : Int} (hB : BTp B N) (d : Nat) {n : Int} (hn : 0 ≤ n ∧ n < 5) {υ : Mem} (h29 : υ 29 3 = n) (h1' : υ 12 1 = N) (h13 : ∀ i, 0 ≤ i → i < N → υ 13 i = B i) {Q : RV → Mem → Prop} (h0 : ∀ w, pPl B N 12 0 0 (fun _ _ => 0) = .inl w → ∀ τ, Sm υ τ [12, 30, 36] [] → (∀ j, ¬ (n * 60 ≤ j ∧ j < n * 60 + 60) → τ 30 j = υ 30 j) → (∀ j, j ≠ n → τ 36 j = υ 36 j) → τ 12 1 = N → τ 12 3 = w → Q (rI 0) τ) (h1 : ∀ c S', pPl B N 12 0 0 (fun _ _ => 0) = .inr (c, S') → ∀ τ, Sm υ τ [12, 30, 36] [] → (∀ j, ¬ (n * 60 ≤ j ∧ j < n * 60 + 60) → τ 30 j = υ 30 j) → (∀ j, j ≠ n → τ 36 j = υ 36 j) → τ 12 1 = N → τ 36 n = c → (∀ j w, 0 ≤ j → j < c → 0 ≤ w → w < 5 → τ 30 (n * 60 + (5 * j + w)) = S' j w) → Q (rI 1) τ) : Cl (d + 4) mPl_readSpare [aR 29] υ Q := by
  have hN := hB.1
  refine bPl_readSpare_in (bTa_rewind_in (d := d + 2) ?_)
  have s0 : Sm υ (ups (ups υ 12 2 0) 12 3 (-1)) [12, 30, 36] [] := (Sm.refl.ups rfl (Or.inl (by decide))).ups rfl (Or.inl (by decide))
  have t0 : TqC (ups (ups υ 12 2 0) 12 3 (-1)) B N 0 := ⟨by rw [ups_fn (by decide), ups_fn (by decide)]; exact h1', by rw [ups_fn (by decide), ups_hit], fun i i0 i1 => by rw [ups_ne (by decide), ups_ne (by decide)]; exact h13 i i0 i1⟩
  have e30 : (ups (ups υ 12 2 0) 12 3 (-1)) 30 = υ 30 := by rw [ups_ne (by decide), ups_ne (by decide)]
  have e36 : (ups (ups υ 12 2 0) 12 3 (-1)) 36 = υ 36 := by rw [ups_ne (by decide), ups_ne (by decide)]
  have e29 : (ups (ups υ 12 2 0) 12 3 (-1)) 29 3 = n := by rw [ups_ne (by decide), ups_ne (by decide)]; exact h29
  generalize (ups (ups υ 12 2 0) 12 3 (-1)) = υ1 at *
  rw [e29]
  refine ⟨hn.1, hn.2, bJ_fill_w30_in (d := d + 2) ⟨hn.1, hn.2, ?_⟩⟩
  refine loop_up (G := fun i => ∀ τ, Sm υ1 τ [30] [] → (∀ q, 0 ≤ q → q < i → τ 30 (n * 60 + q) = -1) → (∀ j, ¬ (n * 60 ≤ j ∧ j < n * 60 + 60) → τ 30 j = υ1 30 j) → Ev (d + 3) mJ_fill 5 [vW 30 n, vI (-1), vI i, vI 60] [] τ _) (hi := 60) _ 0 rfl (by decide) (fun i i0 i1 g => ?_) ?_ υ1 Sm.refl (fun q a b => absurd b (by omega)) (fun _ _ => rfl)
  · intro τ s lo hi
    refine bJ_fill_w30_5 ⟨⟨by omega, by omega⟩, by decide, fun z => absurd z (by omega), fun _ => ⟨hn.1, hn.2, i0, i1, g _ (s.ups rfl (Or.inl (by decide))) (fun q a b => ?_) (fun j hj => ?_)⟩⟩
    · by_cases e : q = i
      · rw [e, ups_hit]
      · rw [ups_fn (by omega)]; exact lo q a (by omega)
    · rw [ups_fn (by omega)]; exact hi j hj
  · intro τ s lo hi
    refine bJ_fill_w30_5 ⟨by decide, by decide, fun _ => ?_, fun z => absurd z (by decide)⟩
    have sA : Sm υ τ [12, 30, 36] [] := s0.trans (s.mono (by decide) (by decide))
    exact pspareC hB d hn 12 0 0 (fun _ _ => 0) τ (by decide) (by decide) (by rw [s.1 29 rfl]; exact e29) ⟨by omega, by omega⟩ (t0.sm s rfl rfl) (fun q => absurd q (by decide)) (fun q a b => lo q a b) (fun j w a b => absurd b (by omega)) (fun w e τ2 s2 f2 g2 e1 e2 => h0 w e τ2 (sA.trans s2) (fun j hj => by rw [f2 j hj, hi j hj, e30]) (fun j hj => by rw [g2 j hj, s.1 36 rfl, e36]) e1 e2) (fun c S' e τ2 s2 f2 g2 e1 e3 r2 => h1 c S' e τ2 (sA.trans s2) (fun j hj => by rw [f2 j hj, hi j hj, e30]) (fun j hj => by rw [g2 j hj, s.1 36 rfl, e36]) e1 e3 r2)
