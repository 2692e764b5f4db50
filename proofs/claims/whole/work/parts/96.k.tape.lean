/-! ===== THE TAPE READ: signs, numbers ===== -/
def hr (B : Int → Int) (N a : Int) : Int := if a < N then B a else -1
def skF (B : Int → Int) : Nat → Int → Int
  | 0, a => a
  | n + 1, a => if B a = 32 then skF B n (a + 1) else a
/-- blanks passed over -/
def sk (B : Int → Int) (N a : Int) : Int := skF B (N - a).toNat a
theorem skF_r (B : Int → Int) : ∀ (n : Nat) (a : Int), a ≤ skF B n a ∧ skF B n a ≤ a + (n : Int)
  | 0, a => ⟨Int.le_refl _, by show a ≤ a + 0; omega⟩
  | n + 1, a => by
    have ih := skF_r B n (a + 1)
    unfold skF
    split <;> omega
theorem sk_r {B : Int → Int} {N a : Int} : a ≤ sk B N a ∧ (a ≤ N → sk B N a ≤ N) := by
  have := skF_r B (N - a).toNat a
  unfold sk
  exact ⟨this.1, fun h => by omega⟩
theorem skF_n (B : Int → Int) (N : Int) : ∀ (n : Nat) (a : Int), (N - a).toNat = n → ¬ hr B N (skF B n a) = 32
  | 0, a, h => by
    show ¬ hr B N a = 32
    unfold hr
    rw [if_neg (by omega)]
    decide
  | n + 1, a, h => by
    unfold skF
    split
    · exact skF_n B N n (a + 1) (by omega)
    · unfold hr
      rw [if_pos (by omega)]
      assumption
theorem sk_n {B : Int → Int} {N a : Int} : ¬ hr B N (sk B N a) = 32 := skF_n B N _ a rfl
theorem sk_id {B : Int → Int} {N a : Int} (h : ¬ hr B N a = 32) : sk B N a = a := by
  unfold sk
  cases e : (N - a).toNat with
  | zero => rfl
  | succ n =>
    unfold skF
    unfold hr at h
    rw [if_pos (by omega)] at h
    rw [if_neg h]
theorem sk_S {B : Int → Int} {N a : Int} (h : hr B N a = 32) : sk B N a = sk B N (a + 1) := by
  unfold sk
  unfold hr at h
  by_cases c : a < N
  · rw [if_pos c] at h
    rw [show (N - a).toNat = (N - (a + 1)).toNat + 1 by omega]
    show (if B a = 32 then skF B (N - (a + 1)).toNat (a + 1) else a) = _
    rw [if_pos h]
  · rw [if_neg c] at h; cases h
/-- a tape -/
def BTp (B : Int → Int) (N : Int) : Prop := (0 ≤ N ∧ N ≤ 240) ∧ ∀ i, 0 ≤ i → i < N → 1 ≤ B i ∧ B i ≤ 255
theorem BTp.r {B : Int → Int} {N a : Int} (h : BTp B N) (ha : 0 ≤ a) : -1 ≤ hr B N a ∧ hr B N a ≤ 255 ∧ (hr B N a ≠ -1 → a < N ∧ 1 ≤ hr B N a) := by
  unfold hr
  by_cases c : a < N
  · have := h.2 a ha c
    rw [if_pos c]; omega
  · rw [if_neg c]; omega
def TqC (υ : Mem) (B : Int → Int) (N a : Int) : Prop := υ 12 1 = N ∧ υ 12 2 = a ∧ ∀ i, 0 ≤ i → i < N → υ 13 i = B i
def TqR (ω : Mem) (B : Int → Int) (N a : Int) : Prop := ω 64 2 = N ∧ ω 64 3 = a ∧ ∀ i, 0 ≤ i → i < N → ω 65 i = B i
theorem TqC.to {υ : Mem} {B : Int → Int} {N a : Int} (h : TqC υ B N a) (a' : Int) : TqC (ups υ 12 2 a') B N a' := ⟨by rw [ups_fn (by decide)]; exact h.1, ups_hit, fun i i0 i1 => by rw [ups_ne (by decide)]; exact h.2.2 i i0 i1⟩
theorem TqR.to {υ : Mem} {B : Int → Int} {N a : Int} (h : TqR υ B N a) (a' : Int) : TqR (ups υ 64 3 a') B N a' := ⟨by rw [ups_fn (by decide)]; exact h.1, ups_hit, fun i i0 i1 => by rw [ups_ne (by decide)]; exact h.2.2 i i0 i1⟩
theorem TqC.sm {υ τ : Mem} {S : List Nat} {J : List Int} {B : Int → Int} {N a : Int} (h : TqC υ B N a) (s : Sm υ τ S J) (h1 : S.contains 12 = false) (h2 : S.contains 13 = false) : TqC τ B N a := ⟨by rw [s.1 12 h1]; exact h.1, by rw [s.1 12 h1]; exact h.2.1, fun i i0 i1 => by rw [s.1 13 h2]; exact h.2.2 i i0 i1⟩
theorem TqR.sm {υ τ : Mem} {S : List Nat} {J : List Int} {B : Int → Int} {N a : Int} (h : TqR υ B N a) (s : Sm υ τ S J) (h1 : J.contains 2 = false) (h2 : J.contains 3 = false) (h3 : S.contains 65 = false) : TqR τ B N a := ⟨by rw [s.2 2 h1]; exact h.1, by rw [s.2 3 h2]; exact h.2.1, fun i i0 i1 => by rw [s.1 65 h3]; exact h.2.2 i i0 i1⟩
theorem signC {B : Int → Int} {N : Int} (hB : BTp B N) (d : Nat) {Q : RV → Mem → Prop} : ∀ (n : Nat) (a : Int) (υ : Mem), (N - a).toNat = n → 0 ≤ a ∧ a ≤ 1000 → TqC υ B N a → (∀ τ, Sm υ τ [12] [] → TqC τ B N (sk B N a) → τ 12 3 = υ 12 3 → Q (rI (hr B N (sk B N a))) τ) → Ev (d + 1) mTa_sign 0 [vR 12] [] υ Q := by
  have h48 : ∀ (a : Int) (υ : Mem) (Q : RV → Mem → Prop), 0 ≤ a ∧ a ≤ 1000 → TqC υ B N a → Q (rI (hr B N a)) υ → Ev (d + 1) mTa_sign 48 [vR 12] [] υ Q := by
    intro a υ Q ha ht hq
    obtain ⟨t1, t2, t3⟩ := ht
    have hN := hB.1
    unfold hr at hq
    refine bTa_sign_48 ⟨by rw [t2]; exact ⟨by omega, by omega⟩, by rw [t1]; exact ⟨by omega, by omega⟩, fun z => ?_, fun z => ⟨fun y => absurd y (by omega), fun y => ⟨(by omega), ?_⟩⟩⟩
    · rw [if_neg (by omega)] at hq; exact hq
    · rw [if_pos (by omega)] at hq; rw [t2, t3 a ha.1 (by omega)]; exact hq
  intro n
  induction n with
  | zero =>
    intro a υ hn ha ht hq
    have e : sk B N a = a := by unfold sk; rw [hn]; rfl
    rw [e] at hq
    have f := h48 a υ Q ha ht (hq υ Sm.refl ht rfl)
    obtain ⟨t1, t2, t3⟩ := ht
    have hN := hB.1
    exact bTa_sign_0 ⟨by rw [t2]; exact ⟨by omega, by omega⟩, by rw [t1]; exact ⟨by omega, by omega⟩, fun z => f, fun z => absurd z (by omega)⟩
  | succ n ih =>
    intro a υ hn ha ht hq
    have hN := hB.1
    have ht' := ht
    obtain ⟨t1, t2, t3⟩ := ht
    have b := hB.2 a ha.1 (by omega)
    have hb := t3 a ha.1 (by omega)
    have ehr : hr B N a = B a := if_pos (by omega)
    have f : ¬ B a = 32 → Ev (d + 1) mTa_sign 48 [vR 12] [] υ Q := fun z => by
      rw [sk_id (a := a) (by rw [ehr]; exact z)] at hq
      exact h48 a υ Q ha ht' (hq υ Sm.refl ht' rfl)
    refine bTa_sign_0 ⟨by rw [t2]; exact ⟨by omega, by omega⟩, by rw [t1]; exact ⟨by omega, by omega⟩, fun z => absurd z (by omega), fun z => ⟨fun y => absurd y (by omega), fun y => ⟨(by omega), by rw [t2, hb]; exact ⟨by omega, by omega⟩, fun x => f (by rw [t2, hb] at x; exact x), fun x => ?_⟩⟩⟩
    rw [t2, hb] at x
    rw [t2]
    rw [sk_S (by rw [ehr]; exact x)] at hq
    exact ih (a + 1) _ (by omega) (by omega) (ht'.to (a + 1)) (fun τ s t w => hq τ ((Sm.refl.ups rfl (Or.inl (by decide))).trans s) t (by rw [w, ups_fn (by decide)]))
theorem sgC {B : Int → Int} {N : Int} (hB : BTp B N) (d : Nat) {a : Int} {υ : Mem} (ha : 0 ≤ a ∧ a ≤ 1000) (ht : TqC υ B N a) {Q : RV → Mem → Prop} (hq : ∀ τ, Sm υ τ [12] [] → TqC τ B N (sk B N a) → Q (rI (hr B N (sk B N a))) τ) : Cl (d + 1) mTa_sign [aR 12] υ Q := bTa_sign_in (signC hB d _ a υ rfl ha ht (fun τ s t _ => hq τ s t))
theorem failC {B : Int → Int} {N a w : Int} {υ : Mem} (d : Nat) (ht : TqC υ B N a) {Q : RV → Mem → Prop} (hq : ∀ τ, Sm υ τ [12] [] → τ 12 1 = N → τ 12 3 = w → Q (rI 0) τ) : Cl (d + 1) mTa_failAt [aR 12, aI w] υ Q := bTa_failAt_in (hq _ (Sm.refl.ups rfl (Or.inl (by decide))) (by rw [ups_fn (by decide)]; exact ht.1) ups_hit)
theorem overC {B : Int → Int} {N : Int} (hB : BTp B N) (d : Nat) {a : Int} {υ : Mem} (ha : 0 ≤ a ∧ a ≤ 1000) (ht : TqC υ B N a) {Q : RV → Mem → Prop} (h1 : hr B N (sk B N a) = -1 → ∀ τ, Sm υ τ [12] [] → TqC τ B N (sk B N a) → Q (rI 1) τ) (h0 : hr B N (sk B N a) ≠ -1 → ∀ τ, Sm υ τ [12] [] → TqC τ B N (sk B N a) → Q (rI 0) τ) : Cl (d + 2) mTa_isOver [aR 12] υ Q := by
  have r := (sk_r (B := B) (N := N) (a := a)).1
  have b := hB.r (a := sk B N a) (by omega)
  refine bTa_isOver_in (sgC hB d ha ht (fun τ s t => ⟨⟨by omega, by omega⟩, fun z => h0 z τ s t, fun z => h1 z τ s t⟩))
theorem expC {B : Int → Int} {N : Int} (hB : BTp B N) (d : Nat) {a c : Int} {υ : Mem} (ha : 0 ≤ a ∧ a ≤ 1000) (hc : rg c) (ht : TqC υ B N a) {Q : RV → Mem → Prop} (h1 : hr B N (sk B N a) = c → ∀ τ, Sm υ τ [12] [] → TqC τ B N (sk B N a + 1) → Q (rI 1) τ) (h0 : hr B N (sk B N a) ≠ c → ∀ τ, Sm υ τ [12] [] → τ 12 1 = N → τ 12 3 = sk B N a → Q (rI 0) τ) : Cl (d + 2) mTa_expect [aR 12, aI c] υ Q := by
  have r := (sk_r (B := B) (N := N) (a := a)).1
  have b := hB.r (a := sk B N a) (by omega)
  refine bTa_expect_in (sgC hB d ha ht (fun τ s t => ⟨⟨by omega, by omega⟩, hc, fun z => h1 z _ (s.ups rfl (Or.inl (by decide))) (by rw [t.2.1]; exact t.to _), fun z => ?_⟩))
  rw [t.2.1]
  exact failC d t (fun τ2 s2 e1 e2 => ⟨by decide, h0 z τ2 (s.trans s2) e1 e2⟩)
/-! numbers -/
abbrev dg (c : Int) : Prop := 48 ≤ c ∧ c ≤ 57
def nmF (B : Int → Int) (N : Int) : Nat → Int → Int → Int × Int
  | 0, a, v => (a, v)
  | n + 1, a, v => if dg (hr B N a) then nmF B N n (a + 1) (v * 10 + hr B N a - 48) else (a, v)
theorem nmF_r {B : Int → Int} {N : Int} (hB : BTp B N) : ∀ (n : Nat) (a v : Int), 0 ≤ a → 0 ≤ v → (a ≤ (nmF B N n a v).1 ∧ (nmF B N n a v).1 ≤ a + (n : Int)) ∧ (a ≤ N → (nmF B N n a v).1 ≤ N) ∧ (0 ≤ (nmF B N n a v).2 ∧ (nmF B N n a v).2 < (v + 1) * 10 ^ n)
  | 0, a, v, ha, hv => by
    show (a ≤ a ∧ a ≤ a + 0) ∧ (a ≤ N → a ≤ N) ∧ (0 ≤ v ∧ v < (v + 1) * 1)
    omega
  | n + 1, a, v, ha, hv => by
    have p : (10 : Int) ^ (n + 1) = 10 ^ n * 10 := Int.pow_succ _ _
    have p0 : 0 < (10 : Int) ^ n := Int.pow_pos (by decide)
    have b := hB.r (a := a) ha
    unfold nmF
    by_cases c : dg (hr B N a)
    · rw [if_pos c]
      have ih := nmF_r hB n (a + 1) (v * 10 + hr B N a - 48) (by omega) (by omega)
      have e : (v * 10 + hr B N a - 48 + 1) * 10 ^ n ≤ (v * 10 + 10) * 10 ^ n := Int.mul_le_mul_of_nonneg_right (by omega) (by omega)
      have e2 : (v + 1) * 10 ^ (n + 1) = (v * 10 + 10) * 10 ^ n := by rw [p, Int.mul_comm (10 ^ n) 10, ← Int.mul_assoc, show (v + 1) * 10 = v * 10 + 10 by omega]
      rw [e2]
      have q := b.2.2 (by omega)
      exact ⟨⟨by omega, by omega⟩, fun h => ih.2.1 (by omega), ih.2.2.1, by omega⟩
    · rw [if_neg c]
      have e : v + 1 ≤ (v + 1) * 10 ^ (n + 1) := by
        have := Int.mul_le_mul_of_nonneg_left (show (1 : Int) ≤ 10 ^ (n + 1) by rw [p]; omega) (show 0 ≤ v + 1 by omega)
        omega
      show (a ≤ a ∧ a ≤ a + ((n + 1 : Nat) : Int)) ∧ (a ≤ N → a ≤ N) ∧ (0 ≤ v ∧ v < (v + 1) * 10 ^ (n + 1))
      omega
/-- a number of so many digits: where it is wrong, or where it ends and its value -/
def num (B : Int → Int) (N : Int) (n : Nat) (a : Int) : Int ⊕ (Int × Int) := if (nmF B N n (sk B N a) 0).1 = sk B N a ∨ dg (hr B N (nmF B N n (sk B N a) 0).1) then .inl (nmF B N n (sk B N a) 0).1 else .inr (nmF B N n (sk B N a) 0)
theorem numC {B : Int → Int} {N : Int} (hB : BTp B N) (d : Nat) {n : Nat} (hn : n ≤ 4) {a : Int} {υ : Mem} (ha : 0 ≤ a ∧ a ≤ 900) (ht : TqC υ B N a) {Q : RV → Mem → Prop} (h0 : ∀ w, num B N n a = .inl w → ∀ τ, Sm υ τ [12] [] → τ 12 1 = N → τ 12 3 = w → Q (rI (-1)) τ) (h1 : ∀ a' v, num B N n a = .inr (a', v) → ∀ τ, Sm υ τ [12] [] → TqC τ B N a' → Q (rI v) τ) : Cl (d + 2) mTa_number [aR 12, aI (n : Int)] υ Q := by
  have r := (sk_r (B := B) (N := N) (a := a))
  have hN := hB.1
  have r2 : sk B N a ≤ 900 := by
    by_cases c : a ≤ N
    · have := r.2 c; omega
    · unfold sk; rw [show (N - a).toNat = 0 by omega]; exact ha.2
  refine bTa_number_in (sgC hB d (by omega) ht (fun τ s t => ?_))
  unfold num at h0 h1
  generalize hA : sk B N a = A at *
  -- what stands at the end
  have fin : ∀ (a' v k : Int) (τ : Mem) (u4 : Option AV), 0 ≤ a' ∧ a' ≤ 910 → Sm υ τ [12] [] → TqC τ B N a' → nmF B N n A 0 = (a', v) → (rg k) → (k = 0 ↔ a' = A) → Ev (d + 2) mTa_number 97 [vR 12, vI (n : Int), vI v, vI k, u4] [] τ Q := by
    intro a' v k τ u4 ha' s t hr' hk hk2
    rw [hr'] at h0 h1
    dsimp only at h0 h1
    have t' := t
    obtain ⟨t1, t2, t3⟩ := t
    have b := hB.r (a := a') ha'.1
    have g151 : ∀ s0 : Int, (s0 = 0 ∨ s0 = 1) → (s0 = 1 ↔ dg (hr B N a')) → Ev (d + 2) mTa_number 151 [vR 12, vI (n : Int), vI v, vI k, u4] [aI s0] τ Q := by
      intro s0 hs0 hs1
      refine bTa_number_151 ⟨hk, fun z => ?_, fun z => ⟨by rcases hs0 with e | e <;> rw [e] <;> decide, fun y => ?_, fun y => ?_⟩⟩
      · rw [t2]
        exact failC d t' (fun τ2 s2 e1 e2 => h0 a' (if_pos (Or.inl (hk2.mp z))) τ2 (s.trans s2) e1 e2)
      · exact h1 a' v (if_neg (fun q => by
          rcases q with q | q
          · exact z (hk2.mpr q)
          · have := hs1.mpr q; omega)) τ s t'
      · rw [t2]
        exact failC d t' (fun τ2 s2 e1 e2 => h0 a' (if_pos (Or.inr (hs1.mp (by omega)))) τ2 (s.trans s2) e1 e2)
    have h9 : ¬ dg (hr B N a') → Ev (d + 2) mTa_number 151 [vR 12, vI (n : Int), vI v, vI k, u4] [aI 0] τ Q := fun z => g151 0 (Or.inl rfl) ⟨fun y => absurd y (by decide), fun y => absurd y z⟩
    have e : a' < N → hr B N a' = τ 13 a' := fun z => by rw [t3 a' ha'.1 z]; exact if_pos z
    have e2 : ¬ a' < N → hr B N a' = -1 := fun z => if_neg z
    refine bTa_number_97 ⟨by rw [t2]; exact ⟨by omega, by omega⟩, by rw [t1]; exact ⟨by omega, by omega⟩, fun z => h9 (by rw [e2 (by omega)]; decide), fun z => ⟨fun y => absurd y (by omega), fun y => ?_⟩⟩
    have e' := e (by omega)
    rw [t2]
    refine ⟨(by omega), by rw [← e']; exact ⟨by omega, by omega⟩, fun x => h9 (by rw [e']; intro q; omega), fun x => ⟨fun x2 => h9 (by rw [e']; intro q; omega), fun x2 => g151 1 (Or.inr rfl) ⟨fun _ => by rw [e']; exact ⟨x, x2⟩, fun _ => rfl⟩⟩⟩
  have loop : ∀ (k : Nat) (a' v : Int) (τ : Mem) (u4 : Option AV), k ≤ n → a' = A + ((n : Int) - (k : Int)) → 0 ≤ v → Sm υ τ [12] [] → TqC τ B N a' → nmF B N n A 0 = nmF B N k a' v → Ev (d + 2) mTa_number 9 [vR 12, vI (n : Int), vI v, vI ((n : Int) - (k : Int)), u4] [] τ Q := by
    intro k
    induction k with
    | zero =>
      intro a' v τ u4 hk ea hv s t hr'
      have f := fin a' v ((n : Int) - ((0 : Nat) : Int)) τ u4 ⟨by omega, by omega⟩ s t hr' ⟨by omega, by omega⟩ (by omega)
      obtain ⟨t1, t2, t3⟩ := t
      have b := hB.2 a' (by omega)
      refine bTa_number_9 ⟨by rw [t2]; exact ⟨by omega, by omega⟩, by rw [t1]; exact ⟨by omega, by omega⟩, fun z => f, fun z => ⟨fun y => f, fun y => ⟨(by omega), ?_, fun _ => f, fun _ => ⟨fun _ => f, fun _ => ⟨⟨by omega, by omega⟩, ⟨by omega, by omega⟩, fun _ => f, fun q => absurd q (by omega)⟩⟩⟩⟩⟩
      rw [t2, t3 a' (by omega) (by omega)]
      have := b (by omega)
      exact ⟨by omega, by omega⟩
    | succ k ik =>
      intro a' v τ u4 hk ea hv s t hr'
      have t' := t
      obtain ⟨t1, t2, t3⟩ := t
      have hS : nmF B N (k + 1) a' v = if dg (hr B N a') then nmF B N k (a' + 1) (v * 10 + hr B N a' - 48) else (a', v) := rfl
      have stop : ¬ dg (hr B N a') → Ev (d + 2) mTa_number 97 [vR 12, vI (n : Int), vI v, vI ((n : Int) - ((k + 1 : Nat) : Int)), u4] [] τ Q := fun z => by
        rw [hS, if_neg z] at hr'
        exact fin a' v _ τ u4 ⟨by omega, by omega⟩ s t' hr' ⟨by omega, by omega⟩ (by omega)
      have e : a' < N → hr B N a' = τ 13 a' := fun z => by rw [t3 a' (by omega) z]; exact if_pos z
      have e2 : ¬ a' < N → hr B N a' = -1 := fun z => if_neg z
      refine bTa_number_9 ⟨by rw [t2]; exact ⟨by omega, by omega⟩, by rw [t1]; exact ⟨by omega, by omega⟩, fun z => stop (by rw [e2 (by omega)]; decide), fun z => ⟨fun y => absurd y (by omega), fun y => ?_⟩⟩
      have e' := e (by omega)
      have b := hB.r (a := a') (by omega)
      rw [t2]
      refine ⟨(by omega), by rw [← e']; exact ⟨by omega, by omega⟩, fun x => stop (by rw [e']; intro q; omega), fun x => ⟨fun x2 => stop (by rw [e']; intro q; omega), fun x2 => ⟨⟨by omega, by omega⟩, ⟨by omega, by omega⟩, fun q => absurd q (by omega), fun _ => ?_⟩⟩⟩
      have c : dg (hr B N a') := by rw [e']; exact ⟨x, x2⟩
      rw [hS, if_pos c] at hr'
      rw [← e', show (n : Int) - ((k + 1 : Nat) : Int) + 1 = (n : Int) - (k : Int) by omega]
      exact ik (a' + 1) (v * 10 + hr B N a' - 48) _ u4 (by omega) (by omega) (by omega) (s.ups rfl (Or.inl (by decide))) (t'.to (a' + 1)) hr'
  have := loop n A 0 τ vU (Nat.le_refl _) (by omega) (Int.le_refl _) s t rfl
  rw [Int.sub_self] at this
  exact this
/-! the reference -/
theorem hereR {B : Int → Int} {N : Int} (hB : BTp B N) (d : Nat) {a : Int} {ω : Mem} (ha : 0 ≤ a ∧ a ≤ 1000) (ht : TqR ω B N a) {Q : RV → Mem → Prop} (hq : Q (rI (hr B N a)) ω) : Cl (d + 1) mR_here [aR 64] ω Q := by
  obtain ⟨t1, t2, t3⟩ := ht
  have hN := hB.1
  unfold hr at hq
  refine bR_here_in ⟨by rw [t2]; exact ⟨by omega, by omega⟩, by rw [t1]; exact ⟨by omega, by omega⟩, fun z => ?_, fun z => ⟨(by omega), (by omega), ?_⟩⟩
  · rw [if_neg (by omega)] at hq; exact hq
  · rw [if_pos (by omega)] at hq; rw [t2, t3 a ha.1 (by omega)]; exact hq
theorem lookR {B : Int → Int} {N : Int} (hB : BTp B N) (d : Nat) {a : Int} {ω : Mem} (ha : 0 ≤ a ∧ a ≤ 1000) (ht : TqR ω B N a) {Q : RV → Mem → Prop} (hq : ∀ τ, Sm ω τ [64] [3] → TqR τ B N (sk B N a) → Q (rI (hr B N (sk B N a))) τ) : Cl (d + 2) mR_look [aR 64] ω Q := by
  have hN := hB.1
  refine bR_look_in ?_
  have key : ∀ (n : Nat) (a : Int) (ω : Mem), (N - a).toNat = n → 0 ≤ a ∧ a ≤ 1000 → TqR ω B N a → (∀ τ, Sm ω τ [64] [3] → TqR τ B N (sk B N a) → Q (rI (hr B N (sk B N a))) τ) → Ev (d + 2) mR_look 0 [vR 64] [] ω Q := by
    intro n
    induction n with
    | zero =>
      intro a ω hn ha ht hq
      have e : sk B N a = a := by unfold sk; rw [hn]; rfl
      have e2 : hr B N a = -1 := if_neg (by omega)
      rw [e] at hq
      refine bR_look_0 (hereR hB d ha ht ⟨by rw [e2]; decide, fun _ => hereR hB d ha ht (hq ω Sm.refl ht), fun z => absurd z (by rw [e2]; decide)⟩)
    | succ n ih =>
      intro a ω hn ha ht hq
      have b := hB.r (a := a) ha.1
      refine bR_look_0 (hereR hB d ha ht ⟨⟨by omega, by omega⟩, fun z => ?_, fun z => ?_⟩)
      · rw [sk_id z] at hq
        exact hereR hB d ha ht (hq ω Sm.refl ht)
      · rw [sk_S z] at hq
        rw [ht.2.1]
        exact ih (a + 1) _ (by omega) (by omega) (ht.to (a + 1)) (fun τ s t => hq τ ((Sm.refl.ups rfl (Or.inr rfl)).trans s) t)
  exact key _ a ω rfl ha ht hq
theorem badR {B : Int → Int} {N a : Int} {ω : Mem} (d : Nat) (h4 : ω 64 4 = -1) (ht : TqR ω B N a) {Q : RV → Mem → Prop} (hq : ∀ τ, Sm ω τ [64] [4] → TqR τ B N a → τ 64 4 = a → Q rV τ) : Cl (d + 1) mR_bad [aR 64] ω Q := by
  refine bR_bad_in ⟨by rw [h4]; decide, fun z => absurd h4 z, fun _ => ?_⟩
  rw [ht.2.1]
  exact hq _ (Sm.refl.ups rfl (Or.inr rfl)) (ht.sm (Sm.refl.ups rfl (Or.inr rfl)) (J := [4]) (S := [64]) rfl rfl rfl) ups_hit
/-- a number within bounds -/
def nmr (B : Int → Int) (N lo hi a : Int) : Int ⊕ (Int × Int) := match num B N 2 a with
  | .inl w => .inl w
  | .inr r => if r.2 < lo ∨ hi < r.2 then .inl (r.1 - 1) else .inr r
theorem numR {B : Int → Int} {N : Int} (hB : BTp B N) (d : Nat) {lo hi a : Int} {ω : Mem} (hlo : rg lo) (hhi : rg hi) (ha : 0 ≤ a ∧ a ≤ 900) (ht : TqR ω B N a) (h4 : ω 64 4 = -1) {Q : RV → Mem → Prop} (h0 : ∀ w, nmr B N lo hi a = .inl w → ∀ τ v, Sm ω τ [64] [3, 4] → (∃ a', 0 ≤ a' ∧ a' ≤ 1000 ∧ TqR τ B N a') → τ 64 4 = w → rg v → Q (rI v) τ) (h1 : ∀ a' v, nmr B N lo hi a = .inr (a', v) → ∀ τ, Sm ω τ [64] [3] → TqR τ B N a' → Q (rI v) τ) : Cl (d + 3) mR_number [aR 64, aI lo, aI hi] ω Q := by
  have r := (sk_r (B := B) (N := N) (a := a))
  have hN := hB.1
  have r2 : sk B N a ≤ 900 := by
    by_cases c : a ≤ N
    · have := r.2 c; omega
    · unfold sk; rw [show (N - a).toNat = 0 by omega]; exact ha.2
  refine bR_number_in (lookR hB d (by omega) ht (fun τ s t => ?_))
  unfold nmr num at h0 h1
  generalize hA : sk B N a = A at *
  have b := hB.r (a := A) (by omega)
  have e4 : τ 64 4 = -1 := by rw [s.2 4 rfl]; exact h4
  have un : nmF B N 2 A 0 = if dg (hr B N A) then (if dg (hr B N (A + 1)) then (A + 1 + 1, (0 * 10 + hr B N A - 48) * 10 + hr B N (A + 1) - 48) else (A + 1, 0 * 10 + hr B N A - 48)) else (A, 0) := rfl
  -- behind the digits
  have fin : ∀ (a' v : Int) (τ : Mem), (A < a' ∧ a' ≤ 910) → (0 ≤ v ∧ v ≤ 99) → Sm ω τ [64] [3] → TqR τ B N a' → nmF B N 2 A 0 = (a', v) → Ev (d + 3) mR_number 67 [vR 64, vI lo, vI hi, vI v] [] τ Q := by
    intro a' v τ ha' hv s t hr'
    rw [hr'] at h0 h1
    dsimp only at h0 h1
    have b' := hB.r (a := a') (by omega)
    have e4 : τ 64 4 = -1 := by rw [s.2 4 rfl]; exact h4
    refine bR_number_67 (hereR hB (d + 1) (by omega) t ⟨⟨by omega, by omega⟩, fun z => ?_, fun z => ⟨⟨by omega, by omega⟩, hlo, hhi, fun y => ?_, fun y => ?_⟩⟩)
    · have c : a' = A ∨ dg (hr B N a') := Or.inr z
      rw [if_pos c] at h0
      exact badR (d + 1) e4 t (fun τ2 s2 t2 e => h0 a' rfl τ2 v ((s.mono (by decide) (by decide)).trans (s2.mono (by decide) (by decide))) ⟨a', (by omega), (by omega), t2⟩ e ⟨by omega, by omega⟩)
    · have c : ¬ (a' = A ∨ dg (hr B N a')) := fun q => by rcases q with q | q; omega; exact z q
      rw [if_neg c] at h1
      exact h1 a' v (if_neg (fun q => by dsimp only at q; omega)) τ s t
    · have c : ¬ (a' = A ∨ dg (hr B N a')) := fun q => by rcases q with q | q; omega; exact z q
      rw [if_neg c] at h0
      have t2 := t.to (a' - 1)
      rw [t.2.1]
      refine badR (d + 1) (by rw [ups_fn (by decide)]; exact e4) t2 (fun τ3 s3 t3 e => h0 (a' - 1) (if_pos (by dsimp only; omega)) τ3 v (((s.mono (by decide) (by decide)).ups rfl (Or.inr rfl)).trans (s3.mono (by decide) (by decide))) ⟨a' - 1, (by omega), (by omega), t3⟩ e ⟨by omega, by omega⟩)
  refine ⟨⟨by omega, by omega⟩, fun z => hereR hB (d + 1) (by omega) t ?_, fun z => ?_⟩
  · rw [if_pos z] at un
    have t2 := t.to (A + 1)
    have sA : Sm ω (ups τ 64 3 (A + 1)) [64] [3] := s.ups rfl (Or.inr rfl)
    have b1 := hB.r (a := A + 1) (by omega)
    rw [t.2.1]
    refine hereR hB (d + 1) (by omega) t2 ⟨⟨by omega, by omega⟩, fun y => hereR hB (d + 1) (by omega) t2 ?_, fun y => ?_⟩
    · rw [if_pos y] at un
      rw [t2.2.1]
      refine fin (A + 1 + 1) _ _ (by omega) (by omega) (sA.ups rfl (Or.inr rfl)) (t2.to _) ?_
      rw [un]
      exact congrArg (fun z => (A + 1 + 1, z)) (by omega)
    · rw [if_neg y] at un
      refine fin (A + 1) _ _ (by omega) (by omega) sA t2 ?_
      rw [un]
      exact congrArg (fun z => (A + 1, z)) (by omega)
  · rw [if_neg z] at un
    rw [un] at h0
    dsimp only at h0
    rw [if_pos (Or.inl rfl)] at h0
    exact badR (d + 1) e4 t (fun τ2 s2 t2 e => h0 A rfl τ2 lo ((s.mono (by decide) (by decide)).trans (s2.mono (by decide) (by decide))) ⟨A, (by omega), (by omega), t2⟩ e hlo)
theorem num_r {B : Int → Int} {N : Int} (hB : BTp B N) {n : Nat} {a : Int} (ha : 0 ≤ a ∧ a ≤ N) : (∀ w, num B N n a = .inl w → 0 ≤ w ∧ w ≤ N) ∧ ∀ a' v, num B N n a = .inr (a', v) → (a < a' ∧ a' ≤ N) ∧ (0 ≤ v ∧ v < 10 ^ n) := by
  have r := (sk_r (B := B) (N := N) (a := a))
  have q := nmF_r hB n (sk B N a) 0 (by omega) (Int.le_refl _)
  have r2 := r.2 ha.2
  have q2 := q.2.1 r2
  unfold num
  constructor
  · intro w h
    by_cases c : (nmF B N n (sk B N a) 0).1 = sk B N a ∨ dg (hr B N (nmF B N n (sk B N a) 0).1)
    · rw [if_pos c] at h
      injection h with h; omega
    · rw [if_neg c] at h; cases h
  · intro a' v h
    by_cases c : (nmF B N n (sk B N a) 0).1 = sk B N a ∨ dg (hr B N (nmF B N n (sk B N a) 0).1)
    · rw [if_pos c] at h; cases h
    · rw [if_neg c] at h
      injection h with h
      have e1 : (nmF B N n (sk B N a) 0).1 = a' := by rw [h]
      have e2 : (nmF B N n (sk B N a) 0).2 = v := by rw [h]
      have c2 : ¬ (nmF B N n (sk B N a) 0).1 = sk B N a := fun z => c (Or.inl z)
      have := q.2.2
      rw [Int.zero_add, Int.one_mul] at this
      omega
theorem nmr_r {B : Int → Int} {N : Int} (hB : BTp B N) {lo hi a : Int} (ha : 0 ≤ a ∧ a ≤ N) : (∀ w, nmr B N lo hi a = .inl w → 0 ≤ w ∧ w ≤ N) ∧ ∀ a' v, nmr B N lo hi a = .inr (a', v) → (a < a' ∧ a' ≤ N) ∧ (lo ≤ v ∧ v ≤ hi) := by
  obtain ⟨p, q⟩ := num_r hB (n := 2) ha
  unfold nmr
  cases e : num B N 2 a with
  | inl w => exact ⟨fun w' h => by injection h with h; rw [← h]; exact p w e, fun a' v h => by cases h⟩
  | inr r =>
    obtain ⟨a1, v1⟩ := r
    have q1 := q a1 v1 e
    dsimp only
    by_cases c : v1 < lo ∨ hi < v1
    · rw [if_pos c]
      exact ⟨fun w' h => by injection h with h; omega, fun a' v h => by cases h⟩
    · rw [if_neg c]
      exact ⟨fun w' h => (by cases h), fun a' v h => (by injection h with h; injection h with h1 h2; omega)⟩
