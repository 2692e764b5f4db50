/-! ===== RINGS; CASE rings ===== -/
def sff (σ : Mem) (S x k : Int) : Int := if σ 86 k = x ∧ bt S (σ 85 k) = true then 1 else 0
theorem sff_r (σ : Mem) (S x : Int) (n : Nat) : 0 ≤ sumI (sff σ S x) n ∧ sumI (sff σ S x) n ≤ (n : Int) := by
  have := sumI_bd (f := sff σ S x) (a := 0) (b := 1) (n := n) (fun k k0 k1 => by unfold sff; split <;> omega)
  omega
theorem spfC {σ : Mem} (hM : MarkI σ) (d : Nat) {x S : Int} (hx : rg x) (hs : 0 ≤ S ∧ S < 2147483648) {Q : RV → Mem → Prop} (h : Q (rI (sumI (sff σ S x) (σ 64 39).toNat)) σ) : Cl (d + 1) mMk_spoilsFrom [aR 14, aI S, aI x] σ Q := by
  have hM' := hM
  obtain ⟨⟨m1, m2, m3, m4⟩, ⟨n1, n2, n3, n4⟩, -, -, -, m5, -⟩ := hM
  refine bMk_spoilsFrom_in ?_
  have key : ∀ u5, Ev (d + 1) mMk_spoilsFrom 5 [vR 14, vI S, vI x, vI (sumI (sff σ S x) (0 : Int).toNat), vI 0, u5] [] σ Q := by
    refine loop_up (G := fun i => ∀ u5, Ev (d + 1) mMk_spoilsFrom 5 [vR 14, vI S, vI x, vI (sumI (sff σ S x) i.toNat), vI i, u5] [] σ Q) (hi := σ 64 39) _ 0 rfl n3.1 (fun j j0 j1 g => ?_) ?_
    · intro u5
      obtain ⟨⟨k1, k2, k3⟩, k4, k5, k6, k7⟩ := m5 j j0 j1
      rw [show (60 + 3 * j : Int) = 60 + j * 3 by omega] at k1 k2 k3
      have g1 := g (vI (60 + j * 3))
      rw [sumI_S j0] at g1
      refine bMk_spoilsFrom_5 ⟨⟨by omega, by omega⟩, ⟨by omega, by omega⟩, fun q => absurd q (by omega), fun _ => ⟨(by omega), (by omega), ⟨by omega, by omega⟩, hx, fun q => ?_, fun q => ⟨(by omega), (by omega), rg_and _ _, fun w => ?_, fun w => ?_⟩⟩⟩
      · rw [show sff σ S x j = 0 from if_neg (fun z => q (by rw [k2]; exact z.1)), Int.add_zero] at g1; exact g1
      · rw [k1] at w
        rw [show sff σ S x j = 0 from if_neg (fun z => w ((hb_bt hs (by omega)).mpr z.2)), Int.add_zero] at g1; exact g1
      · rw [k1] at w
        rw [show sff σ S x j = 1 from if_pos ⟨by rw [← k2]; exact q, (hb_bt hs (by omega)).mp w⟩] at g1
        exact g1
    · intro u5
      exact bMk_spoilsFrom_5 ⟨⟨by omega, by omega⟩, ⟨by omega, by omega⟩, fun _ => h, fun q => absurd q (by omega)⟩
  exact key vU
/-- one out of a set -/
abbrev rem (S t : Int) : Int := dif S (i_shl 1 t)
theorem rem_1' : ∀ (n : Fin 256) (t : Fin 8), n.val.testBit t.val = true → (n.val &&& (2 ^ t.val ^^^ 4294967295)) < n.val ∧ (n.val &&& (2 ^ t.val ^^^ 4294967295)) ||| 2 ^ t.val = n.val := by decide +kernel
theorem rem_2' : ∀ (n : Fin 256) (t : Fin 8), n.val.testBit t.val = false → ((n.val ||| 2 ^ t.val) &&& (2 ^ t.val ^^^ 4294967295)) = n.val := by decide +kernel
theorem rem_n {n k : Nat} (hn : n < 2147483648) (hk : k < 31) : rem (n : Int) (k : Int) = ((n &&& (2 ^ k ^^^ 4294967295) : Nat) : Int) := by
  unfold rem
  rw [i_shl_n hk, dif_n hn (by have : 2 ^ k < 2 ^ 31 := Nat.pow_lt_pow_right (by decide) hk; omega)]
theorem rem_in {S t : Int} (h : st8 S) (ht : 0 ≤ t ∧ t < 8) (hb : bt S t = true) : (0 ≤ rem S t ∧ rem S t < S) ∧ ins (rem S t) t = S := by
  obtain ⟨n, rfl⟩ : ∃ n : Nat, S = (n : Int) := ⟨_, toN h.1⟩
  obtain ⟨k, rfl⟩ : ∃ n : Nat, t = (n : Int) := ⟨_, toN ht.1⟩
  have a := rem_1' ⟨n, by omega⟩ ⟨k, by omega⟩ hb
  dsimp only at a
  rw [rem_n (by omega) (by omega), ins_n (by omega) (by omega), a.2]
  exact ⟨⟨by omega, by omega⟩, rfl⟩
theorem rem_ins {S t : Int} (h : st8 S) (ht : 0 ≤ t ∧ t < 8) (hb : bt S t = false) : rem (ins S t) t = S := by
  obtain ⟨n, rfl⟩ : ∃ n : Nat, S = (n : Int) := ⟨_, toN h.1⟩
  obtain ⟨k, rfl⟩ : ∃ n : Nat, t = (n : Int) := ⟨_, toN ht.1⟩
  have a := rem_2' ⟨n, by omega⟩ ⟨k, by omega⟩ hb
  have b : n ||| 2 ^ k < 2 ^ 31 := Nat.or_lt_two_pow (by omega) (Nat.pow_lt_pow_right (by decide) (by omega))
  rw [ins_n (by omega) (by omega), rem_n (by omega) (by omega)]
  dsimp only at a
  rw [a]
theorem bt_rem {S t u : Int} (h : st8 S) (ht : 0 ≤ t ∧ t < 8) (hu : 0 ≤ u ∧ u < 31) : bt (rem S t) u = (bt S u && !decide (u = t)) := by
  have := shl_T (T := t) ⟨by omega, by omega⟩
  rw [bt_dif ⟨h.1, (by omega)⟩ ⟨by omega, by omega⟩ hu, bt_sh ⟨by omega, by omega⟩ hu.1]
/-- the least of those with one taken out -/
def dpm (σ : Mem) (β : Int → Int) (S : Int) : Nat → Int
  | 0 => σ 64 39
  | n + 1 => if bt S (Int.ofNat n) = true then min (dpm σ β S n) (β (rem S (Int.ofNat n)) + sumI (sff σ (rem S (Int.ofNat n)) (Int.ofNat n)) (σ 64 39).toNat) else dpm σ β S n
theorem dpm_S {σ : Mem} {β : Int → Int} {S i : Int} (h : 0 ≤ i) : dpm σ β S (i + 1).toNat = if bt S i = true then min (dpm σ β S i.toNat) (β (rem S i) + sumI (sff σ (rem S i) i) (σ 64 39).toNat) else dpm σ β S i.toNat := by
  rw [show (i + 1).toNat = i.toNat + 1 by omega]
  show (if bt S (Int.ofNat i.toNat) = true then min (dpm σ β S i.toNat) (β (rem S (Int.ofNat i.toNat)) + sumI (sff σ (rem S (Int.ofNat i.toNat)) (Int.ofNat i.toNat)) (σ 64 39).toNat) else dpm σ β S i.toNat) = _
  rw [show Int.ofNat i.toNat = i from Int.toNat_of_nonneg h]
theorem dpm_congr {σ : Mem} {β γ : Int → Int} {S : Int} (hS : st8 S) (h : ∀ U, 0 ≤ U → U < S → β U = γ U) : ∀ n : Nat, n ≤ 8 → dpm σ β S n = dpm σ γ S n
  | 0, _ => rfl
  | n + 1, hn => by
    have ih := dpm_congr (σ := σ) hS h n (by omega)
    have z : (0 : Int) ≤ Int.ofNat n ∧ Int.ofNat n < 8 := by show (0 : Int) ≤ ((n : Nat) : Int) ∧ ((n : Nat) : Int) < 8; omega
    unfold dpm
    rw [ih]
    by_cases c : bt S (Int.ofNat n) = true
    · rw [if_pos c, if_pos c, h _ (rem_in hS z c).1.1 (rem_in hS z c).1.2]
    · rw [if_neg c, if_neg c]
theorem dpm_r {σ : Mem} {β : Int → Int} {S : Int} (hS : st8 S) (hR : 0 ≤ σ 64 39) (h : ∀ U, 0 ≤ U → U < S → 0 ≤ β U) : ∀ n : Nat, n ≤ 8 → 0 ≤ dpm σ β S n ∧ dpm σ β S n ≤ σ 64 39
  | 0, _ => ⟨hR, Int.le_refl _⟩
  | n + 1, hn => by
    have ih := dpm_r hS hR h n (by omega)
    have z : (0 : Int) ≤ Int.ofNat n ∧ Int.ofNat n < 8 := by show (0 : Int) ≤ ((n : Nat) : Int) ∧ ((n : Nat) : Int) < 8; omega
    unfold dpm
    by_cases c : bt S (Int.ofNat n) = true
    · rw [if_pos c]
      have a := h _ (rem_in hS z c).1.1 (rem_in hS z c).1.2
      have b := (sff_r σ (rem S (Int.ofNat n)) (Int.ofNat n) (σ 64 39).toNat).1
      omega
    · rw [if_neg c]; exact ih
theorem dpm_le {σ : Mem} {β : Int → Int} {S t : Int} (h0 : 0 ≤ t) (hb : bt S t = true) : ∀ n : Nat, t < (n : Int) → dpm σ β S n ≤ β (rem S t) + sumI (sff σ (rem S t) t) (σ 64 39).toNat
  | 0, h => absurd h (by omega)
  | n + 1, h => by
    unfold dpm
    by_cases e : t = Int.ofNat n
    · rw [← e, if_pos hb]; exact Int.min_le_right _ _
    · have ih := dpm_le (σ := σ) (β := β) h0 hb n (by have : t ≠ ((n : Nat) : Int) := e; omega)
      split
      · exact Int.le_trans (Int.min_le_left _ _) ih
      · exact ih
theorem dpm_at {σ : Mem} {β : Int → Int} {S : Int} : ∀ n : Nat, dpm σ β S n = σ 64 39 ∨ ∃ t : Int, 0 ≤ t ∧ t < (n : Int) ∧ bt S t = true ∧ dpm σ β S n = β (rem S t) + sumI (sff σ (rem S t) t) (σ 64 39).toNat
  | 0 => Or.inl rfl
  | n + 1 => by
    have w : dpm σ β S n = σ 64 39 ∨ ∃ t : Int, 0 ≤ t ∧ t < ((n + 1 : Nat) : Int) ∧ bt S t = true ∧ dpm σ β S n = β (rem S t) + sumI (sff σ (rem S t) t) (σ 64 39).toNat := by
      rcases dpm_at (σ := σ) (β := β) (S := S) n with h | ⟨t, a, b, c, e⟩
      · exact Or.inl h
      · exact Or.inr ⟨t, a, (by omega), c, e⟩
    unfold dpm
    by_cases c : bt S (Int.ofNat n) = true
    · rw [if_pos c]
      by_cases m : dpm σ β S n ≤ β (rem S (Int.ofNat n)) + sumI (sff σ (rem S (Int.ofNat n)) (Int.ofNat n)) (σ 64 39).toNat
      · rw [Int.min_eq_left m]; exact w
      · rw [Int.min_eq_right (by omega)]
        exact Or.inr ⟨Int.ofNat n, Int.ofNat_nonneg n, by show ((n : Nat) : Int) < _; omega, c, rfl⟩
    · rw [if_neg c]; exact w
def Tab (σ : Mem) (β : Int → Int) (N : Int) : Prop := β 0 = 0 ∧ ∀ S, 1 ≤ S → S < N → β S = dpm σ β S (σ 64 37).toNat
theorem Tab.nn {σ : Mem} (hM : MarkI σ) {β : Int → Int} {N : Int} (hN : N ≤ 256) (h : Tab σ β N) : ∀ (n : Nat), (n : Int) < N → 0 ≤ β (n : Int) := by
  intro n
  induction n using Nat.strongRecOn with
  | _ n ih =>
    intro hn
    have hT := hM.2.1.1
    have hR := hM.2.1.2.2.1
    by_cases e : n = 0
    · rw [e]; show 0 ≤ β 0; rw [h.1]; decide
    · rw [h.2 n (by omega) hn]
      refine (dpm_r ⟨by omega, by omega⟩ hR.1 (fun U u0 u1 => ?_) _ (by omega)).1
      have := ih U.toNat (by omega) (by omega)
      rw [Int.toNat_of_nonneg u0] at this; exact this
theorem fewestC {σ : Mem} (hM : MarkI σ) (hT1 : 1 ≤ σ 64 37) (d : Nat) {Q : RV → Mem → Prop} (h : ∀ τ, Sm σ τ [51] [] → Tab σ (τ 51) (i_shl 1 (σ 64 37)) → Q (rI (τ 51 (i_shl 1 (σ 64 37) - 1))) τ) : Cl (d + 2) mSe_fewestLeftOut [aR 50] σ Q := by
  have hM' := hM
  obtain ⟨⟨m1, m2, m3, m4⟩, ⟨n1, n2, n3, n4⟩, -⟩ := hM
  have ar := all_r n1
  refine bSe_fewestLeftOut_in ?_
  rw [m1]
  have key : ∀ τ u3 u4, Sm σ τ [51] [] → Tab σ (τ 51) 1 → Ev (d + 2) mSe_fewestLeftOut 17 [vR 50, vI (i_shl 1 (σ 64 37) - 1), vI 1, u3, u4] [] τ Q := by
    refine loop_up (G := fun i => ∀ τ u3 u4, Sm σ τ [51] [] → Tab σ (τ 51) i → Ev (d + 2) mSe_fewestLeftOut 17 [vR 50, vI (i_shl 1 (σ 64 37) - 1), vI i, u3, u4] [] τ Q) (hi := i_shl 1 (σ 64 37)) _ 1 rfl (shl_T n1).2.1 (fun S S1 S2 g => ?_) ?_
    · intro τ u3 u4 sm tb
      have hS : st8 S := ⟨by omega, by omega⟩
      refine bSe_fewestLeftOut_17 ⟨⟨by omega, by omega⟩, ⟨by omega, by omega⟩, fun q => absurd q (by omega), fun _ => ⟨(by omega), (by omega), ?_⟩⟩
      have inner : ∀ ω u4, Sm σ ω [51] [] → (∀ U, U ≠ S → ω 51 U = τ 51 U) → ω 51 S = dpm σ (τ 51) S (0 : Int).toNat → Ev (d + 2) mSe_fewestLeftOut 39 [vR 50, vI (i_shl 1 (σ 64 37) - 1), vI S, vI 0, u4] [] ω Q := by
        refine loop_up (G := fun i => ∀ ω u4, Sm σ ω [51] [] → (∀ U, U ≠ S → ω 51 U = τ 51 U) → ω 51 S = dpm σ (τ 51) S i.toNat → Ev (d + 2) mSe_fewestLeftOut 39 [vR 50, vI (i_shl 1 (σ 64 37) - 1), vI S, vI i, u4] [] ω Q) (hi := σ 64 37) _ 0 rfl n1.1 (fun t t0 t1 k => ?_) ?_
        · intro ω u4 s2 hU hv
          have e15 : ω 15 0 = σ 64 37 := by rw [s2.1 15 rfl]; exact m1
          have nn : ∀ U, 0 ≤ U → U < S → 0 ≤ τ 51 U := fun U u0 u1 => by
            have := Tab.nn hM' (N := S) (by omega) tb U.toNat (by omega)
            rw [Int.toNat_of_nonneg u0] at this; exact this
          have dr := dpm_r (σ := σ) (β := τ 51) hS n3.1 nn t.toNat (by omega)
          refine bSe_fewestLeftOut_39 ⟨⟨by omega, by omega⟩, by rw [e15]; exact ⟨by omega, by omega⟩, fun q => absurd q (by rw [e15]; omega), fun _ => ⟨rg_and _ _, fun q => ?_, fun q => ?_⟩⟩
          · refine k ω u4 s2 hU ?_
            rw [dpm_S t0, if_neg (fun z => q ((hb_bt ⟨by omega, by omega⟩ (by omega)).mpr z))]; exact hv
          · have hbt := (hb_bt (s := S) (t := t) ⟨by omega, by omega⟩ (by omega)).mp q
            have rm := rem_in hS (t := t) ⟨by omega, by omega⟩ hbt
            have e39 : ω 64 39 = σ 64 39 := s2.2 39 rfl
            have es : sumI (sff ω (rem S t) t) (ω 64 39).toNat = sumI (sff σ (rem S t) t) (σ 64 39).toNat := by
              rw [e39]
              unfold sff
              rw [s2.1 85 rfl, s2.1 86 rfl]
            have sr := sff_r σ (rem S t) t (σ 64 39).toNat
            have eR : ω 51 (rem S t) = τ 51 (rem S t) := hU _ (by omega)
            have eb := nn (rem S t) rm.1.1 rm.1.2
            have rb : τ 51 (rem S t) ≤ 10 := by
              by_cases z : rem S t = 0
              · rw [z, tb.1]; decide
              · rw [tb.2 (rem S t) (by omega) (by omega)]
                have := dpm_r (σ := σ) (β := τ 51) (S := rem S t) ⟨by omega, by omega⟩ n3.1 (fun U u0 u1 => nn U u0 (by omega)) (σ 64 37).toNat (by omega)
                omega
            refine ⟨(by omega), (by omega), rm.1.1, by show rem S t < 256; omega, spfC (S := rem S t) (hM'.sm' s2 (by decide)) d ⟨by omega, by omega⟩ ⟨by omega, by omega⟩ ⟨by rw [hv]; exact ⟨by omega, by omega⟩, ?_, ?_⟩⟩
            · show rg (ω 51 (rem S t) + sumI (sff ω (rem S t) t) (ω 64 39).toNat)
              rw [es, eR]; exact ⟨by omega, by omega⟩
            · rw [es]
              show Ev (d + 2) mSe_fewestLeftOut 39 _ [] (ups ω 51 S (min (ω 51 S) (ω 51 (rem S t) + sumI (sff σ (rem S t) t) (σ 64 39).toNat))) Q
              rw [eR, hv]
              refine k _ _ (s2.ups (by decide) (Or.inl (by decide))) (fun U hne => by rw [ups_fn hne]; exact hU U hne) ?_
              rw [ups_hit, dpm_S t0, if_pos hbt]
        · intro ω u4 s2 hU hv
          have e15 : ω 15 0 = σ 64 37 := by rw [s2.1 15 rfl]; exact m1
          refine bSe_fewestLeftOut_39 ⟨⟨by omega, by omega⟩, by rw [e15]; exact ⟨by omega, by omega⟩, fun _ => g ω _ _ s2 ⟨by rw [hU 0 (by omega)]; exact tb.1, fun U u1 u2 => ?_⟩, fun q => absurd q (by rw [e15]; omega)⟩
          by_cases e : U = S
          · subst e
            rw [hv]
            exact dpm_congr hS (fun V v0 v1 => (hU V (by omega)).symm) _ (by omega)
          · rw [hU U e, tb.2 U u1 (by omega)]
            exact dpm_congr ⟨by omega, by omega⟩ (fun V v0 v1 => (hU V (by omega)).symm) _ (by omega)
      refine inner _ _ (sm.ups (by decide) (Or.inl (by decide))) (fun U hne => ups_fn hne) ?_
      rw [ups_hit, sm.1 15 rfl]; exact m3
    · intro τ u3 u4 sm tb
      have := h τ sm tb
      exact bSe_fewestLeftOut_17 ⟨⟨by omega, by omega⟩, ⟨by omega, by omega⟩, fun _ => ⟨(by omega), (by omega), this⟩, fun q => absurd q (by omega)⟩
  exact key _ _ _ (Sm.refl.ups (by decide) (Or.inl (by decide))) ⟨ups_hit, fun S a b => absurd b (by omega)⟩
