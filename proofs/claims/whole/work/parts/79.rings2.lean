/-! ===== RINGS: THE TABLE AND THE RULES LEFT OUT ===== -/
theorem bcF_sum' : ∀ n : Fin 1024, bcF (n.val : Int) = sumI (fun k => if bt (n.val : Int) k = true then 1 else 0) 10 := by decide +kernel
theorem sumI_pw {f g : Int → Int} : ∀ {n : Nat}, (∀ i : Int, 0 ≤ i → i < (n : Int) → f i ≤ g i) → sumI f n ≤ sumI g n
  | 0, _ => Int.le_refl _
  | n + 1, h => Int.add_le_add (sumI_pw (n := n) (fun i h0 h1 => h i h0 (by omega))) (h _ (Int.ofNat_nonneg n) (by show ((n : Nat) : Int) < _; omega))
theorem sumI_ext {f : Int → Int} : ∀ {m n : Nat}, m ≤ n → (∀ i : Int, 0 ≤ i → i < (n : Int) → 0 ≤ f i) → sumI f m ≤ sumI f n
  | m, 0, hm, _ => by rw [show m = 0 by omega]; exact Int.le_refl _
  | m, n + 1, hm, h => by
    by_cases e : m = n + 1
    · rw [e]; exact Int.le_refl _
    · have ih := sumI_ext (f := f) (m := m) (n := n) (by omega) (fun i h0 h1 => h i h0 (by omega))
      have := h (Int.ofNat n) (Int.ofNat_nonneg n) (by show ((n : Nat) : Int) < _; omega)
      show _ ≤ sumI f n + f (Int.ofNat n)
      omega
/-- a set with given members -/
theorem set_ex (p : Int → Bool) : ∀ n : Nat, n ≤ 10 → ∃ s : Int, (0 ≤ s ∧ s < 2 ^ n) ∧ (∀ k : Int, 0 ≤ k → bt s k = (decide (k < (n : Int)) && p k))
  | 0, _ => ⟨0, by decide, fun k h => by rw [bt_0, decide_eq_false (show ¬ k < ((0 : Nat) : Int) by omega)]; rfl⟩
  | n + 1, hn => by
    obtain ⟨s, hs, hk⟩ := set_ex p n (by omega)
    have h2 : (2 : Int) ^ (n + 1) = 2 * 2 ^ n := by rw [Int.pow_succ]; omega
    have h3 : (2 : Int) ^ n ≤ 2 ^ 10 := by
      have : (2 : Nat) ^ n ≤ 2 ^ 10 := Nat.pow_le_pow_right (by decide) (by omega)
      exact_mod_cast this
    have h4 : (2 : Int) ^ 10 = 1024 := by decide
    by_cases c : p (n : Int) = true
    · refine ⟨ins s (n : Int), ins_lt (m := n + 1) ⟨by omega, by omega⟩ ⟨by omega, by omega⟩ (by omega), fun k k0 => ?_⟩
      rw [bt_ins ⟨by omega, by omega⟩ ⟨by omega, by omega⟩ k0, hk k k0]
      by_cases e : k = (n : Int)
      · rw [e, decide_eq_true rfl, Bool.or_true, c, decide_eq_true (show (n : Int) < ((n + 1 : Nat) : Int) by omega)]; rfl
      · rw [decide_eq_false e, Bool.or_false]
        by_cases f : k < (n : Int)
        · rw [decide_eq_true f, decide_eq_true (show k < ((n + 1 : Nat) : Int) by omega)]
        · rw [decide_eq_false f, decide_eq_false (show ¬ k < ((n + 1 : Nat) : Int) by omega)]
    · refine ⟨s, ⟨by omega, by omega⟩, fun k k0 => ?_⟩
      rw [hk k k0]
      by_cases e : k = (n : Int)
      · rw [e, Bool.eq_false_iff.mpr c, Bool.and_false, Bool.and_false]
      · by_cases f : k < (n : Int)
        · rw [decide_eq_true f, decide_eq_true (show k < ((n + 1 : Nat) : Int) by omega)]
        · rw [decide_eq_false f, decide_eq_false (show ¬ k < ((n + 1 : Nat) : Int) by omega)]
theorem bcF_p {s : Int} {p : Int → Bool} {n : Nat} (hs : 0 ≤ s ∧ s < 1024) (hn : n ≤ 10) (hk : ∀ k : Int, 0 ≤ k → bt s k = (decide (k < (n : Int)) && p k)) : bcF s = sumI (fun k => if p k = true then 1 else 0) n := by
  obtain ⟨m, rfl⟩ : ∃ n : Nat, s = (n : Int) := ⟨_, toN hs.1⟩
  have := bcF_sum' ⟨m, by omega⟩
  dsimp only at this
  rw [this]
  have a : ∀ j : Nat, sumI (fun k => if bt (m : Int) k = true then 1 else 0) (n + j) = sumI (fun k => if p k = true then 1 else 0) n := by
    intro j
    induction j with
    | zero =>
      refine sumI_congr (fun i i0 i1 => ?_)
      rw [hk i i0, decide_eq_true (show i < (n : Int) from i1), Bool.true_and]
    | succ j ih =>
      show sumI (fun k => if bt (m : Int) k = true then 1 else 0) (n + j) + (if bt (m : Int) (Int.ofNat (n + j)) = true then 1 else 0) = _
      rw [hk (Int.ofNat (n + j)) (Int.ofNat_nonneg _), decide_eq_false (show ¬ Int.ofNat (n + j) < (n : Int) from by show ¬ ((n + j : Nat) : Int) < (n : Int); omega)]
      rw [Bool.false_and, if_neg (show ¬ (false = true) by decide)]
      omega
  have := a (10 - n)
  rw [show n + (10 - n) = 10 by omega] at this
  exact this
/-- so many and all: it is all -/
theorem full' : ∀ (T : Fin 9) (n : Fin 256), n.val < 2 ^ T.val → bcF (n.val : Int) = (T.val : Int) → n.val = 2 ^ T.val - 1 := by decide +kernel
theorem full {s T : Int} (hT : 0 ≤ T ∧ T ≤ 8) (h : 0 ≤ s ∧ s < 2 ^ T.toNat) (hb : bcF s = T) : s = i_shl 1 T - 1 := by
  have sh := shl_T hT
  obtain ⟨n, rfl⟩ : ∃ n : Nat, s = (n : Int) := ⟨_, toN h.1⟩
  obtain ⟨k, rfl⟩ : ∃ n : Nat, T = (n : Int) := ⟨_, toN hT.1⟩
  have h2 : n < 2 ^ k := by have := h.2; simp only [Int.toNat_natCast] at this; exact_mod_cast this
  have h3 : 2 ^ k ≤ 2 ^ 8 := Nat.pow_le_pow_right (by decide) (by omega)
  have := full' ⟨k, by omega⟩ ⟨n, by omega⟩ h2 hb
  dsimp only at this
  rw [i_shl_n (by omega)]
  have : 0 < 2 ^ k := Nat.pow_pos (by decide)
  omega
/-- of those left out, the ones whose end still comes -/
def cfr (σ : Mem) (skip done k : Int) : Int := if bt skip k = true ∧ bt done (σ 86 k) = false then 1 else 0
theorem cfr_r (σ : Mem) (skip done : Int) (n : Nat) : 0 ≤ sumI (cfr σ skip done) n := sumI_nn (fun k _ _ => by unfold cfr; split <;> omega)
theorem tab_le {σ : Mem} (hM : MarkI σ) {β : Int → Int} (tb : Tab σ β (i_shl 1 (σ 64 37))) {done t : Int} (hd : 0 ≤ done ∧ done < 2 ^ (σ 64 37).toNat) (ht : 0 ≤ t ∧ t < σ 64 37) (hb : bt done t = false) : β (ins done t) ≤ β done + sumI (sff σ done t) (σ 64 39).toNat := by
  have hT := hM.2.1.1
  have sh := shl_T hT
  have p2 := p2_le hT
  have il := ins_lt (m := (σ 64 37).toNat) hd (t := t) ⟨by omega, by omega⟩ (by omega)
  have e := rem_ins (S := done) (t := t) ⟨by omega, by omega⟩ ⟨by omega, by omega⟩ hb
  have b : bt (ins done t) t = true := by rw [bt_ins ⟨by omega, by omega⟩ ⟨by omega, by omega⟩ ht.1, decide_eq_true rfl, Bool.or_true]
  have ne : ins done t ≠ 0 := fun z => by rw [z, bt_0] at b; cases b
  have := dpm_le (σ := σ) (β := β) ht.1 b (σ 64 37).toNat (by omega)
  rw [e] at this
  rw [tb.2 (ins done t) (by omega) (by omega)]
  exact this
/-- whoever finds a row has left out enough -/
theorem crw_lb {σ : Mem} (hM : MarkI σ) {β : Int → Int} (tb : Tab σ β (i_shl 1 (σ 64 37))) {skip : Int} : ∀ (n : Nat) (row done : Int), (n : Int) + bcF done = σ 64 37 → (0 ≤ done ∧ done < 2 ^ (σ 64 37).toNat) → (∀ k, 0 ≤ k → k < σ 64 39 → bt skip k = false → bt done (σ 85 k) = true → bt done (σ 86 k) = true) → crw σ skip n row done ≠ -1 → β (i_shl 1 (σ 64 37) - 1) ≤ β done + sumI (cfr σ skip done) (σ 64 39).toNat
  | 0, row, done, hn, hd, _, _ => by
    have := full hM.2.1.1 hd (by omega)
    rw [← this]
    have := cfr_r σ skip done (σ 64 39).toNat
    omega
  | n + 1, row, done, hn, hd, hc, hr => by
    have hT := hM.2.1.1
    have hR := hM.2.1.2.2.1
    have p2 := p2_le hT
    have m5 := hM.2.2.2.2.2.1
    unfold crw at hr
    rcases fs_r (p := nxp σ done skip) (σ 64 37).toNat with ⟨a, -⟩ | ⟨a, b, c⟩
    · rw [if_pos a] at hr; exact absurd rfl hr
    · rw [if_neg (by omega)] at hr
      generalize fs (nxp σ done skip) (σ 64 37).toNat = t at *
      unfold nxp at c
      rw [Bool.and_eq_true, Bool.not_eq_true'] at c
      have mc := mcB_iff.mp c.2
      have il := ins_lt (m := (σ 64 37).toNat) hd (t := t) ⟨by omega, by omega⟩ (by omega)
      have ic := bcF_ins (s := done) (t := t) ⟨by omega, by omega⟩ ⟨by omega, by omega⟩ c.1
      have tl := tab_le hM tb hd (t := t) ⟨by omega, by omega⟩ c.1
      have bi : ∀ u, 0 ≤ u → bt (ins done t) u = (bt done u || decide (u = t)) := fun u u0 => bt_ins ⟨by omega, by omega⟩ ⟨by omega, by omega⟩ u0
      have ih := crw_lb hM tb (skip := skip) n (10 * row + t) (ins done t) (by omega) il (fun k k0 k1 s0 z => ?_) hr
      · have : sumI (fun k => sff σ done t k + cfr σ skip (ins done t) k) (σ 64 39).toNat ≤ sumI (cfr σ skip done) (σ 64 39).toNat := by
          refine sumI_pw (fun k k0 k1 => ?_)
          obtain ⟨-, k4, k5, k6, k7⟩ := m5 k k0 (by omega)
          have b6 := bi (σ 86 k) (by omega)
          show sff σ done t k + cfr σ skip (ins done t) k ≤ cfr σ skip done k
          by_cases z : σ 86 k = t ∧ bt done (σ 85 k) = true
          · have s1 : bt skip k = true := by
              cases e : bt skip k
              · have := hc k k0 (by omega) e z.2
                rw [z.1, c.1] at this; cases this
              · rfl
            have a1 : sff σ done t k = 1 := if_pos z
            have a2 : cfr σ skip (ins done t) k = 0 := if_neg (fun y => by rw [b6, decide_eq_true z.1, Bool.or_true] at y; exact absurd y.2 (by decide))
            have a3 : cfr σ skip done k = 1 := if_pos ⟨s1, by rw [z.1]; exact c.1⟩
            omega
          · have a1 : sff σ done t k = 0 := if_neg z
            rw [a1, Int.zero_add]
            unfold cfr
            by_cases y : bt skip k = true ∧ bt (ins done t) (σ 86 k) = false
            · have : bt done (σ 86 k) = false := by
                have := y.2
                rw [b6, Bool.or_eq_false_iff] at this; exact this.1
              rw [if_pos y, if_pos ⟨y.1, this⟩]
              exact Int.le_refl _
            · rw [if_neg y]; split <;> omega
        rw [sumI_add] at this
        omega
      · obtain ⟨-, k4, k5, k6, k7⟩ := m5 k k0 k1
        rw [bi _ (by omega)] at z ⊢
        by_cases e : bt done (σ 85 k) = true
        · rw [hc k k0 k1 s0 e]; rfl
        · rw [Bool.eq_false_iff.mpr e, Bool.false_or, decide_eq_true_iff] at z
          rw [mc k k0 k1 s0 z]; rfl
theorem tab_lb {σ : Mem} (hM : MarkI σ) {β : Int → Int} (tb : Tab σ β (i_shl 1 (σ 64 37))) {skip : Int} (hs : 0 ≤ skip ∧ skip < 1024) (h : crw σ skip (σ 64 37).toNat 0 0 ≠ -1) : β (i_shl 1 (σ 64 37) - 1) ≤ bcF skip := by
  have hT := hM.2.1.1
  have hR := hM.2.1.2.2.1
  have z0 : bcF 0 = 0 := by decide
  have a := crw_lb hM tb (skip := skip) (σ 64 37).toNat 0 0 (by rw [z0]; omega) ⟨by decide, Int.pow_pos (by decide)⟩ (fun k _ _ _ y => by rw [bt_0] at y; cases y) h
  rw [tb.1] at a
  obtain ⟨m, rfl⟩ : ∃ n : Nat, skip = (n : Int) := ⟨_, toN hs.1⟩
  have b := bcF_sum' ⟨m, by omega⟩
  dsimp only at b
  have c : sumI (cfr σ (m : Int) 0) (σ 64 39).toNat ≤ sumI (fun k => if bt (m : Int) k = true then 1 else 0) (σ 64 39).toNat := sumI_pw (fun k _ _ => by
    show cfr σ (m : Int) 0 k ≤ if bt (m : Int) k = true then 1 else 0
    unfold cfr
    by_cases y : bt (m : Int) k = true
    · rw [if_pos y]; split <;> decide
    · rw [if_neg y, if_neg (fun w => y w.1)]; decide)
  have e := sumI_ext (f := fun k => if bt (m : Int) k = true then 1 else 0) (m := (σ 64 39).toNat) (n := 10) (by omega) (fun k _ _ => by show 0 ≤ if bt (m : Int) k = true then (1 : Int) else 0; split <;> decide)
  omega
/-- the table's own row: who stands ahead of whom -/
theorem tab_wit {σ : Mem} (hM : MarkI σ) {β : Int → Int} (tb : Tab σ β (i_shl 1 (σ 64 37))) : ∀ S : Nat, (S : Int) < i_shl 1 (σ 64 37) → σ 64 39 ≤ β (S : Int) ∨ ∃ (p : Int → Bool) (r : Int → Nat) (B : Nat), sumI (fun k => if p k = true then 1 else 0) (σ 64 39).toNat ≤ β (S : Int) ∧ (∀ k, 0 ≤ k → k < σ 64 39 → p k = false → bt (S : Int) (σ 85 k) = true → bt (S : Int) (σ 86 k) = true → r (σ 86 k) < r (σ 85 k)) ∧ ∀ u, r u ≤ B := by
  intro S
  induction S using Nat.strongRecOn with
  | _ S ih =>
    intro hS
    have hT := hM.2.1.1
    have hR := hM.2.1.2.2.1
    have sh := shl_T hT
    have m5 := hM.2.2.2.2.2.1
    by_cases e : S = 0
    · subst e
      refine Or.inr ⟨fun _ => false, fun _ => 0, 0, ?_, fun k _ _ _ y => ?_, fun _ => Nat.le_refl _⟩
      · show _ ≤ β 0
        rw [tb.1]
        have := sumI_0 (σ 64 39).toNat
        show sumI (fun _ => 0) _ ≤ 0
        omega
      · rw [show ((0 : Nat) : Int) = 0 from rfl, bt_0] at y; cases y
    · have eS := tb.2 (S : Int) (by omega) hS
      rcases dpm_at (σ := σ) (β := β) (S := (S : Int)) (σ 64 37).toNat with h | ⟨t, t0, t1, hb, h⟩
      · exact Or.inl (by rw [eS, h]; exact Int.le_refl _)
      · have rm := rem_in (S := (S : Int)) (t := t) ⟨by omega, by omega⟩ ⟨by omega, by omega⟩ hb
        have sr := sff_r σ (rem (S : Int) t) t (σ 64 39).toNat
        have i1 := ih (rem (S : Int) t).toNat (by omega) (by omega)
        rw [Int.toNat_of_nonneg rm.1.1] at i1
        rw [eS, h]
        rcases i1 with i1 | ⟨p, r, B, q1, q2, q3⟩
        · exact Or.inl (by omega)
        · refine Or.inr ⟨fun k => p k || (decide (σ 86 k = t) && bt (rem (S : Int) t) (σ 85 k)), fun u => if u = t then B + 1 else r u, B + 1, ?_, fun k k0 k1 hp h5 h6 => ?_, fun u => ?_⟩
          · have : sumI (fun k => if (p k || (decide (σ 86 k = t) && bt (rem (S : Int) t) (σ 85 k))) = true then 1 else 0) (σ 64 39).toNat ≤ sumI (fun k => (if p k = true then 1 else 0) + sff σ (rem (S : Int) t) t k) (σ 64 39).toNat := by
              refine sumI_pw (fun k k0 k1 => ?_)
              show (if (p k || (decide (σ 86 k = t) && bt (rem (S : Int) t) (σ 85 k))) = true then (1 : Int) else 0) ≤ (if p k = true then 1 else 0) + sff σ (rem (S : Int) t) t k
              unfold sff
              by_cases y : σ 86 k = t ∧ bt (rem (S : Int) t) (σ 85 k) = true
              · rw [if_pos y]; split <;> split <;> omega
              · rw [if_neg y]
                have : (decide (σ 86 k = t) && bt (rem (S : Int) t) (σ 85 k)) = false := by
                  rw [Bool.eq_false_iff]
                  intro w
                  rw [Bool.and_eq_true, decide_eq_true_iff] at w
                  exact y w
                rw [this, Bool.or_false]
                split <;> omega
            rw [sumI_add] at this
            exact Int.le_trans this (by omega)
          · obtain ⟨-, k4, k5, k6, k7⟩ := m5 k k0 k1
            have b1 := bt_rem (S := (S : Int)) (t := t) (u := σ 85 k) ⟨by omega, by omega⟩ ⟨by omega, by omega⟩ ⟨by omega, by omega⟩
            have b2 := bt_rem (S := (S : Int)) (t := t) (u := σ 86 k) ⟨by omega, by omega⟩ ⟨by omega, by omega⟩ ⟨by omega, by omega⟩
            rw [h5, Bool.true_and] at b1
            rw [h6, Bool.true_and] at b2
            dsimp only at hp ⊢
            rw [Bool.or_eq_false_iff] at hp
            by_cases y5 : σ 85 k = t
            · rw [if_pos y5, if_neg (by omega)]
              have := q3 (σ 86 k)
              omega
            · rw [if_neg y5]
              rw [decide_eq_false y5] at b1
              by_cases y6 : σ 86 k = t
              · rw [decide_eq_true y6, b1] at hp; exact absurd hp.2 (by decide)
              · rw [if_neg y6]
                rw [decide_eq_false y6] at b2
                exact q2 k k0 k1 hp.1 b1 b2
          · dsimp only
            have := q3 u
            split <;> omega
/-- a row is found when somebody ranks them so -/
theorem crw_ex {σ : Mem} (hM : MarkI σ) {skip : Int} {r : Int → Nat} (hr : ∀ k, 0 ≤ k → k < σ 64 39 → bt skip k = false → r (σ 86 k) < r (σ 85 k)) : ∀ (n : Nat) (row done : Int), (n : Int) + bcF done = σ 64 37 → (0 ≤ done ∧ done < 2 ^ (σ 64 37).toNat) → 0 ≤ row → crw σ skip n row done ≠ -1
  | 0, row, done, _, _, hw => by show row ≠ -1; omega
  | n + 1, row, done, hn, hd, hw => by
    have hT := hM.2.1.1
    have p2 := p2_le hT
    have m5 := hM.2.2.2.2.2.1
    unfold crw
    rcases fs_r (p := nxp σ done skip) (σ 64 37).toNat with ⟨a, b⟩ | ⟨a, b, c⟩
    · exfalso
      have stuck : ∀ m : Nat, ∀ u : Int, 0 ≤ u → u < σ 64 37 → bt done u = false → r u = m → False := by
        intro m
        induction m using Nat.strongRecOn with
        | _ m ih =>
          intro u u0 u1 hb hm
          have z := b u u0 (by omega)
          unfold nxp at z
          rw [hb] at z
          have z2 : mcB σ u done skip = false := z
          refine absurd (mcB_iff.mpr (fun k k0 k1 s0 e => ?_)) (by rw [z2]; decide)
          cases w : bt done (σ 86 k)
          · obtain ⟨-, k4, k5, k6, k7⟩ := m5 k k0 k1
            have := hr k k0 k1 s0
            rw [e, hm] at this
            exact (ih _ this (σ 86 k) (by omega) (by omega) w rfl).elim
          · rfl
      have ex : ∃ u : Int, 0 ≤ u ∧ u < σ 64 37 ∧ bt done u = false := by
        by_cases y : ∃ u : Int, 0 ≤ u ∧ u < σ 64 37 ∧ bt done u = false
        · exact y
        · exfalso
          have ar := all_r hT
          have : done = i_shl 1 (σ 64 37) - 1 := by
            refine bt_ext ⟨by omega, by omega⟩ ar (fun u u0 u1 => ?_)
            rw [bt_all hT u0]
            by_cases c : u < σ 64 37
            · rw [decide_eq_true c]
              cases w : bt done u
              · exact absurd ⟨u, u0, c, w⟩ y
              · rfl
            · rw [decide_eq_false c]
              obtain ⟨dn, rfl⟩ : ∃ n : Nat, done = (n : Int) := ⟨_, toN hd.1⟩
              obtain ⟨k, rfl⟩ : ∃ n : Nat, u = (n : Int) := ⟨_, toN u0⟩
              refine Nat.testBit_lt_two_pow ?_
              have h2 : dn < 2 ^ (σ 64 37).toNat := by exact_mod_cast hd.2
              exact Nat.lt_of_lt_of_le h2 (Nat.pow_le_pow_right (by decide) (by omega))
          have full : ∀ T : Fin 9, bcF (i_shl 1 (T.val : Int) - 1) = (T.val : Int) := by decide +kernel
          have := full ⟨(σ 64 37).toNat, by omega⟩
          dsimp only at this
          rw [Int.toNat_of_nonneg hT.1] at this
          rw [‹done = _›] at hn
          omega
      obtain ⟨u, u0, u1, hb⟩ := ex
      exact stuck _ u u0 u1 hb rfl
    · rw [if_neg (by omega)]
      generalize fs (nxp σ done skip) (σ 64 37).toNat = t at *
      unfold nxp at c
      rw [Bool.and_eq_true, Bool.not_eq_true'] at c
      have il := ins_lt (m := (σ 64 37).toNat) hd (t := t) ⟨by omega, by omega⟩ (by omega)
      have ic := bcF_ins (s := done) (t := t) ⟨by omega, by omega⟩ ⟨by omega, by omega⟩ c.1
      exact crw_ex hM hr n _ _ (by omega) il (by omega)
/-- the least of those left out -/
def mnr (σ : Mem) : Nat → Int
  | 0 => σ 64 39
  | n + 1 => if bcF (Int.ofNat n) < mnr σ n ∧ crw σ (Int.ofNat n) (σ 64 37).toNat 0 0 ≠ -1 then bcF (Int.ofNat n) else mnr σ n
theorem mnr_S {σ : Mem} {i : Int} (h : 0 ≤ i) : mnr σ (i + 1).toNat = if bcF i < mnr σ i.toNat ∧ crw σ i (σ 64 37).toNat 0 0 ≠ -1 then bcF i else mnr σ i.toNat := by
  rw [show (i + 1).toNat = i.toNat + 1 by omega]
  show (if bcF (Int.ofNat i.toNat) < mnr σ i.toNat ∧ crw σ (Int.ofNat i.toNat) (σ 64 37).toNat 0 0 ≠ -1 then bcF (Int.ofNat i.toNat) else mnr σ i.toNat) = _
  rw [show Int.ofNat i.toNat = i from Int.toNat_of_nonneg h]
theorem mnr_at {σ : Mem} : ∀ n : Nat, mnr σ n = σ 64 39 ∨ ∃ s : Int, 0 ≤ s ∧ s < (n : Int) ∧ crw σ s (σ 64 37).toNat 0 0 ≠ -1 ∧ mnr σ n = bcF s
  | 0 => Or.inl rfl
  | n + 1 => by
    unfold mnr
    split
    · rename_i h
      exact Or.inr ⟨Int.ofNat n, Int.ofNat_nonneg n, by show ((n : Nat) : Int) < _; omega, h.2, rfl⟩
    · rcases mnr_at (σ := σ) n with h | ⟨s, a, b, c, e⟩
      · exact Or.inl h
      · exact Or.inr ⟨s, a, (by omega), c, e⟩
theorem mnr_le {σ : Mem} : ∀ n : Nat, mnr σ n ≤ σ 64 39 ∧ ∀ s : Int, 0 ≤ s → s < (n : Int) → crw σ s (σ 64 37).toNat 0 0 ≠ -1 → mnr σ n ≤ bcF s
  | 0 => ⟨Int.le_refl _, fun s a b => absurd b (by omega)⟩
  | n + 1 => by
    have ih := mnr_le (σ := σ) n
    unfold mnr
    split
    · rename_i h
      refine ⟨(by omega), fun s a b c => ?_⟩
      by_cases e : s = Int.ofNat n
      · rw [e]; exact Int.le_refl _
      · have := ih.2 s a (by have : s ≠ ((n : Nat) : Int) := e; omega) c
        omega
    · rename_i h
      refine ⟨ih.1, fun s a b c => ?_⟩
      by_cases e : s = Int.ofNat n
      · rw [e] at c ⊢
        have : ¬ bcF (Int.ofNat n) < mnr σ n := fun z => h ⟨z, c⟩
        omega
      · exact ih.2 s a (by have : s ≠ ((n : Nat) : Int) := e; omega) c
theorem shl_R {T : Int} (h : 0 ≤ T ∧ T ≤ 10) : i_shl 1 T = 2 ^ T.toNat ∧ 1 ≤ i_shl 1 T ∧ i_shl 1 T ≤ 1024 := by
  obtain ⟨k, rfl⟩ : ∃ n : Nat, T = (n : Int) := ⟨_, toN h.1⟩
  have e := i_shl_n (t := k) (by omega)
  have h1 : 2 ^ k ≤ 2 ^ 10 := Nat.pow_le_pow_right (by decide) (by omega)
  have h2 : 0 < 2 ^ k := Nat.pow_pos (by decide)
  rw [e]
  refine ⟨?_, (by omega), (by omega)⟩
  simp
theorem tab_mn {σ : Mem} (hM : MarkI σ) (hT1 : 1 ≤ σ 64 37) {β : Int → Int} (tb : Tab σ β (i_shl 1 (σ 64 37))) : β (i_shl 1 (σ 64 37) - 1) = mnr σ (i_shl 1 (σ 64 39)).toNat := by
  have hT := hM.2.1.1
  have hR := hM.2.1.2.2.1
  have sh := shl_T hT
  have sr := shl_R hR
  have ml := mnr_le (σ := σ) (i_shl 1 (σ 64 39)).toNat
  have m5 := hM.2.2.2.2.2.1
  have up : β (i_shl 1 (σ 64 37) - 1) ≤ mnr σ (i_shl 1 (σ 64 39)).toNat := by
    rcases mnr_at (σ := σ) (i_shl 1 (σ 64 39)).toNat with h | ⟨s, a, b, c, e⟩
    · rw [h]
      have g1 : 1 ≤ i_shl 1 (σ 64 37) - 1 := by
        have : (2 : Int) ^ 1 ≤ 2 ^ (σ 64 37).toNat := by
          have : (2 : Nat) ^ 1 ≤ 2 ^ (σ 64 37).toNat := Nat.pow_le_pow_right (by decide) (by omega)
          exact_mod_cast this
        rw [sh.1]; omega
      rw [tb.2 _ g1 (by omega)]
      refine (dpm_r ⟨by omega, by omega⟩ hR.1 (fun U u0 u1 => ?_) _ (by omega)).2
      have := Tab.nn hM (N := i_shl 1 (σ 64 37)) (by omega) tb U.toNat (by omega)
      rw [Int.toNat_of_nonneg u0] at this; exact this
    · rw [e]; exact tab_lb hM tb ⟨by omega, by omega⟩ c
  have wit := tab_wit hM tb (i_shl 1 (σ 64 37) - 1).toNat (by omega)
  rw [Int.toNat_of_nonneg (by omega)] at wit
  rcases wit with w | ⟨p, r, B, q1, q2, q3⟩
  · omega
  · obtain ⟨s, hs, hk⟩ := set_ex p (σ 64 39).toNat (by omega)
    rw [← sr.1] at hs
    have bs := bcF_p (s := s) (p := p) (n := (σ 64 39).toNat) ⟨by omega, by omega⟩ (by omega) hk
    have cl : crw σ s (σ 64 37).toNat 0 0 ≠ -1 := by
      refine crw_ex hM (r := r) (fun k k0 k1 e => ?_) _ 0 0 (by rw [show bcF 0 = 0 by decide]; omega) ⟨by decide, Int.pow_pos (by decide)⟩ (by decide)
      obtain ⟨-, k4, k5, k6, k7⟩ := m5 k k0 k1
      rw [hk k k0, decide_eq_true (show k < ((σ 64 39).toNat : Int) by omega), Bool.true_and] at e
      refine q2 k k0 k1 e ?_ ?_
      · rw [bt_all hT k4.1, decide_eq_true k4.2]
      · rw [bt_all hT k5.1, decide_eq_true k5.2]
    have := ml.2 s hs.1 (by omega) cl
    omega
theorem ringsR {σ : Mem} (hM : MarkI σ) (hT1 : 1 ≤ σ 64 37) (d : Nat) {Q : RV → Mem → Prop} (h : Q (rI (mnr σ (i_shl 1 (σ 64 39)).toNat)) σ) : Cl (d + 4) mR_rings [aR 64] σ Q := by
  have hT := hM.2.1.1
  have hR := hM.2.1.2.2.1
  have sr := shl_R hR
  refine bR_rings_in ⟨⟨by omega, by omega⟩, fun _ => ?_, fun q => absurd q (by omega)⟩
  refine loop_up (G := fun i => Ev (d + 4) mR_rings 16 [vR 64, vI (mnr σ i.toNat), vI i] [] σ Q) (hi := i_shl 1 (σ 64 39)) _ 0 rfl (by omega) (fun s s0 s1 g => ?_) ?_
  · rw [mnr_S s0] at g
    have br : 0 ≤ bcF s ∧ bcF s ≤ 10 := by
      obtain ⟨m, rfl⟩ : ∃ n : Nat, s = (n : Int) := ⟨_, toN s0⟩
      have := bcF_r' ⟨m, by omega⟩
      exact ⟨this.1, this.2.1⟩
    have mr : 0 ≤ mnr σ s.toNat ∧ mnr σ s.toNat ≤ 10 := by
      rcases mnr_at (σ := σ) s.toNat with e | ⟨u, a, b, c, e⟩
      · omega
      · rw [e]
        obtain ⟨m, rfl⟩ : ∃ n : Nat, u = (n : Int) := ⟨_, toN a⟩
        have := bcF_r' ⟨m, by omega⟩
        exact ⟨this.1, this.2.1⟩
    refine bR_rings_16 ⟨⟨by omega, by omega⟩, ⟨by omega, by omega⟩, fun q => absurd q (by omega), fun _ => ⟨⟨by omega, by omega⟩, ⟨by omega, by omega⟩, fun q => ?_, fun q => cleanR hM d ⟨by omega, by omega⟩ ⟨crw_rg hM s, fun w => ?_, fun w => ?_⟩⟩⟩
    · rw [if_neg (fun z => by omega)] at g; exact g
    · rw [if_neg (fun z => z.2 w)] at g; exact g
    · rw [if_pos ⟨q, w⟩] at g; exact g
  · exact bR_rings_16 ⟨⟨by omega, by omega⟩, ⟨by omega, by omega⟩, fun _ => h, fun q => absurd q (by omega)⟩
theorem c_rings : ∀ (σ : Mem), Inv σ → Pair mF_rings mR_rings [] σ := by
  intro σ hI
  have hM := hI.1.2.1
  obtain ⟨⟨m1, m2, m3, m4⟩, ⟨n1, n2, n3, n4⟩, -⟩ := hI.1.2.1
  by_cases hx : σ 64 37 = 0
  · refine pair_q (v := -1) hI (by decide) ?_ ?_
    · exact bF_rings_in (d := 996) ⟨⟨by omega, by omega⟩, fun q => absurd q (by omega), fun _ => ⟨rfl, rfl⟩⟩
    · exact bR_rings_in (d := 995) ⟨⟨by omega, by omega⟩, fun q => absurd hx q, fun _ => ⟨rfl, rfl⟩⟩
  · have rr : rg (mnr σ (i_shl 1 (σ 64 39)).toNat) := by
      have sr := shl_R n3
      rcases mnr_at (σ := σ) (i_shl 1 (σ 64 39)).toNat with e | ⟨u, a, b, c, e⟩
      · rw [e]; exact ⟨by omega, by omega⟩
      · rw [e]
        obtain ⟨m, rfl⟩ : ∃ n : Nat, u = (n : Int) := ⟨_, toN a⟩
        have := bcF_r' ⟨m, by omega⟩
        dsimp only at this
        exact ⟨by omega, by omega⟩
    refine pair_v (v := mnr σ (i_shl 1 (σ 64 39)).toNat) hI rr ?_ (fun τ hI2 hs => ?_)
    · refine bF_rings_in (d := 996) ⟨⟨by omega, by omega⟩, fun _ => fewestC hM (by omega) 996 (fun τ sm tb => ⟨?_, sm.mono (by decide) (by decide)⟩), fun q => absurd (show 0 < σ 15 0 by omega) q⟩
      rw [tab_mn hM (by omega) tb]
    · have e64 : τ 64 37 = σ 64 37 ∧ τ 64 39 = σ 64 39 := ⟨hs.2 37 rfl, hs.2 39 rfl⟩
      have C2 := hI2.2.1.2.2.2.2.1
      refine ringsR hI2.1.2.1 (by omega) 995 ⟨?_, Sm.refl, fun _ _ _ => rfl, C2⟩
      have em : ∀ x done skip, mcB τ x done skip = mcB σ x done skip := fun x done skip => by
        unfold mcB; rw [e64.2, hs.1 85 rfl, hs.1 86 rfl]
      have ec : ∀ (skip : Int) (n : Nat) (row done : Int), crw τ skip n row done = crw σ skip n row done := by
        intro skip n
        induction n with
        | zero => intro row done; rfl
        | succ n ih =>
          intro row done
          have en : nxp τ done skip = nxp σ done skip := funext (fun u => by unfold nxp; rw [em])
          unfold crw
          rw [en, e64.1, ih]
      have er : ∀ n : Nat, mnr τ n = mnr σ n := by
        intro n
        induction n with
        | zero => exact e64.2
        | succ n ih => unfold mnr; rw [ih, e64.1, ec]
      rw [er, e64.2]
