/-! ===== CASE years ===== -/
theorem l33k : ((Int32.ofInt 33).toInt64.toUInt64 &&& Int64.toUInt64 63).toBitVec % 64#64 = 33#64 := by decide +kernel
theorem l33 (x : Int) : 0 ≤ l_ushr x 33 ∧ l_ushr x 33 < 2147483648 := by
  have e : ((BitVec.ofInt 64 x) >>> 33#64).toNat < 2147483648 := by
    rw [BitVec.ushiftRight_eq', BitVec.toNat_ushiftRight, show (33#64).toNat = 33 from rfl, Nat.shiftRight_eq_div_pow]
    have := (BitVec.ofInt 64 x).isLt
    omega
  have h : l_ushr x 33 = ((BitVec.ofInt 64 x) >>> (((Int32.ofInt 33).toInt64.toUInt64 &&& Int64.toUInt64 63).toBitVec % 64#64)).toInt := rfl
  rw [h, l33k, BitVec.toInt_eq_toNat_of_lt (by omega)]
  omega
/-- a draw -/
def drS (s : Int) : Int := s * 6364136223846793005 + 1442695040888963407
def drV (s k : Int) : Int := Int.tmod (l_ushr (drS s) 33) k
theorem drV_r {s k : Int} (hk : 1 ≤ k) : 0 ≤ drV s k ∧ drV s k < k := by
  have := l33 (drS s)
  unfold drV
  rw [Int.tmod_eq_emod_of_nonneg this.1]
  exact ⟨Int.emod_nonneg _ (by omega), Int.emod_lt_of_pos _ (by omega)⟩
/-- the lowest other holder -/
def hol (m : Int → Int) (p x P : Int) : Int := fs (fun q => decide (q ≠ p) && decide (0 < m (8 * q + x))) P.toNat
/-- one lives by draws: what is done, and the seed then -/
def lvK (T P th p : Int) (m : Int → Int) (s : Int) : Int := if 0 < m (8 * p + drV s T) then 0 else if th ≤ drV (drS s) 100 then 1 else if hol m p (drV s T) P = -1 then 1 else 2
def lvS (T p : Int) (m : Int → Int) (s : Int) : Int := if 0 < m (8 * p + drV s T) then drS s else drS (drS s)
def lvC (σ : Mem) (o : Option (List Cla)) (th p : Int) (c : Int → Int) (s : Int) : Int → Int := if lvK (σ 64 37) (σ 64 38) th p (mO c) s = 0 then gcL c p (hvs σ o (mO c) p (drV s (σ 64 37))) else if lvK (σ 64 37) (σ 64 38) th p (mO c) s = 1 then c else mvC c (27 + hol (mO c) p (drV s (σ 64 37)) (σ 64 38) * 8 + drV s (σ 64 37)) (27 + p * 8 + drV s (σ 64 37))
def lvM (σ : Mem) (o : Option (List Cla)) (th p : Int) (m : Int → Int) (s : Int) : Int → Int := if lvK (σ 64 37) (σ 64 38) th p m s = 0 then gnL 0 m p (hvs σ o m p (drV s (σ 64 37))) else if lvK (σ 64 37) (σ 64 38) th p m s = 1 then m else mvC m (8 * hol m p (drV s (σ 64 37)) (σ 64 38) + drV s (σ 64 37)) (8 * p + drV s (σ 64 37))
theorem fs_cg {p p' : Int → Bool} : ∀ {n : Nat}, (∀ k : Int, 0 ≤ k → k < (n : Int) → p' k = p k) → fs p' n = fs p n
  | 0, _ => rfl
  | n + 1, h => by
    have ih := fs_cg (n := n) (fun k k0 k1 => h k k0 (by omega))
    have e := h (Int.ofNat n) (Int.ofNat_nonneg n) (by show ((n : Nat) : Int) < _; omega)
    unfold fs
    rw [ih, e]
theorem lvK_cg {T P th p : Int} {m m' : Int → Int} {s : Int} (hT : 1 ≤ T ∧ T ≤ 8) (hP : 0 ≤ P ∧ P ≤ 6) (hp : 0 ≤ p ∧ p < P) (h : ∀ i, 0 ≤ i → i < 74 → m' i = m i) : lvK T P th p m' s = lvK T P th p m s ∧ lvS T p m' s = lvS T p m s ∧ hol m' p (drV s T) P = hol m p (drV s T) P := by
  have r := drV_r (s := s) hT.1
  have e1 : m' (8 * p + drV s T) = m (8 * p + drV s T) := h _ (by omega) (by omega)
  have e2 : hol m' p (drV s T) P = hol m p (drV s T) P := fs_cg (fun k k0 k1 => by rw [h _ (by omega) (by omega)])
  unfold lvK lvS
  rw [e1, e2]
  exact ⟨rfl, rfl, rfl⟩
theorem lv_rel {σ : Mem} (hM : MarkI σ) (hT1 : 1 ≤ σ 64 37) {o : Option (List Cla)} {th p s : Int} {c m : Int → Int} (h : CM σ c m) (hL : LogR c m) (hLW : LogW m) (hp : 0 ≤ p ∧ p < σ 64 38) : CM σ (lvC σ o th p c s) (lvM σ o th p m s) ∧ LogR (lvC σ o th p c s) (lvM σ o th p m s) ∧ LogW (lvM σ o th p m s) := by
  have n1 := hM.2.1.1
  have n2 := hM.2.1.2.1
  have eq : ∀ i, 0 ≤ i → i < 74 → mO c i = m i := fun i i0 i1 => mO_eq h.1 i0 i1
  obtain ⟨k1, -, k3⟩ := lvK_cg (th := th) (s := s) (m := m) (m' := mO c) ⟨hT1, n1.2⟩ n2 hp eq
  have r := drV_r (s := s) hT1
  unfold lvC lvM
  rw [k1, k3]
  by_cases c0 : lvK (σ 64 37) (σ 64 38) th p m s = 0
  · rw [if_pos c0, if_pos c0]
    have can : 0 < m (8 * p + drV s (σ 64 37)) := by
      unfold lvK at c0
      by_cases z : 0 < m (8 * p + drV s (σ 64 37))
      · exact z
      · rw [if_neg z] at c0
        split at c0
        · cases c0
        · split at c0 <;> cases c0
    have sr := step_rel (q := 0) (k := 0) (a := p) (b := 0) (x := drV s (σ 64 37)) (v := 0) (o := o) hM h (Or.inl ⟨rfl, hp, r, can⟩) ⟨fun _ => rfl, fun z => absurd z (by decide), fun z => absurd z (by decide), fun z => absurd z (by decide)⟩ ⟨fun _ => rfl, fun z => absurd z (by decide), fun z => absurd z (by decide), fun z => absurd z (by decide)⟩
    exact ⟨sr.1, sr.2 rfl hL hLW⟩
  · rw [if_neg c0, if_neg c0]
    by_cases c1 : lvK (σ 64 37) (σ 64 38) th p m s = 1
    · rw [if_pos c1, if_pos c1]; exact ⟨h, hL, hLW⟩
    · rw [if_neg c1, if_neg c1]
      have hh : hol m p (drV s (σ 64 37)) (σ 64 38) ≠ -1 := by
        intro z
        unfold lvK at c0 c1
        by_cases a : 0 < m (8 * p + drV s (σ 64 37))
        · rw [if_pos a] at c0; exact c0 rfl
        · rw [if_neg a] at c1
          by_cases b : th ≤ drV (drS s) 100
          · rw [if_pos b] at c1; exact c1 rfl
          · rw [if_neg b, if_pos z] at c1; exact c1 rfl
      have fr := fs_r (p := fun q => decide (q ≠ p) && decide (0 < m (8 * q + drV s (σ 64 37)))) (σ 64 38).toNat
      change (hol m p (drV s (σ 64 37)) (σ 64 38) = -1 ∧ _) ∨ (0 ≤ hol m p (drV s (σ 64 37)) (σ 64 38) ∧ hol m p (drV s (σ 64 37)) (σ 64 38) < _ ∧ (decide (hol m p (drV s (σ 64 37)) (σ 64 38) ≠ p) && decide (0 < m (8 * hol m p (drV s (σ 64 37)) (σ 64 38) + drV s (σ 64 37)))) = true) at fr
      rcases fr with ⟨z, -⟩ | ⟨f1, f2, f3⟩
      · exact absurd z hh
      · rw [Bool.and_eq_true, decide_eq_true_iff, decide_eq_true_iff] at f3
        generalize hol m p (drV s (σ 64 37)) (σ 64 38) = b at *
        have sr := step_rel (q := 0) (k := 2) (a := p) (b := b) (x := drV s (σ 64 37)) (v := 0) (o := o) hM h (Or.inr (Or.inr (Or.inl ⟨rfl, hp, ⟨f1, by omega⟩, fun z => f3.1 z.symm, r, f3.2⟩))) ⟨fun z => absurd z (by decide), fun z => absurd z (by decide), fun _ => rfl, fun z => absurd z (by decide)⟩ ⟨fun z => absurd z (by decide), fun z => absurd z (by decide), fun _ => rfl, fun z => absurd z (by decide)⟩
        exact ⟨sr.1, sr.2 rfl hL hLW⟩
