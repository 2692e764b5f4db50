/-! ===== A CLEAN ROW; CASE clean ===== -/
/-- what spoils of x what is in done, or is in skip: x may come -/
def mcB (σ : Mem) (x done skip : Int) : Bool := decide (∀ k : Nat, k < (σ 64 39).toNat → bt skip (k : Int) = false → σ 85 (k : Int) = x → bt done (σ 86 (k : Int)) = true)
theorem mcB_iff {σ : Mem} {x done skip : Int} : mcB σ x done skip = true ↔ ∀ k : Int, 0 ≤ k → k < σ 64 39 → bt skip k = false → σ 85 k = x → bt done (σ 86 k) = true := by
  unfold mcB
  rw [decide_eq_true_iff]
  constructor
  · intro h k k0 k1 a b
    obtain ⟨n, rfl⟩ : ∃ n : Nat, k = (n : Int) := ⟨_, toN k0⟩
    exact h n (by omega) a b
  · intro h k k1 a b
    exact h k (by omega) (by omega) a b
theorem bt_sh {w u : Int} (h : 0 ≤ w ∧ w < 31) (hu : 0 ≤ u) : bt (i_shl 1 w) u = decide (u = w) := by
  obtain ⟨k, rfl⟩ : ∃ n : Nat, w = (n : Int) := ⟨_, toN h.1⟩
  obtain ⟨j, rfl⟩ : ∃ n : Nat, u = (n : Int) := ⟨_, toN hu⟩
  rw [i_shl_n (by omega)]
  unfold bt
  rw [Int.toNat_natCast, Int.toNat_natCast, Nat.testBit_two_pow]
  by_cases e : j = k
  · rw [decide_eq_true (show k = j from e.symm), decide_eq_true (show (j : Int) = (k : Int) by omega)]
  · rw [decide_eq_false (show ¬ k = j by omega), decide_eq_false (show ¬ (j : Int) = (k : Int) by omega)]
theorem bt_all {T u : Int} (h : 0 ≤ T ∧ T ≤ 8) (hu : 0 ≤ u) : bt (i_shl 1 T - 1) u = decide (u < T) := by
  obtain ⟨k, rfl⟩ : ∃ n : Nat, T = (n : Int) := ⟨_, toN h.1⟩
  obtain ⟨j, rfl⟩ : ∃ n : Nat, u = (n : Int) := ⟨_, toN hu⟩
  have h2 : 0 < 2 ^ k := Nat.pow_pos (by decide)
  rw [i_shl_n (by omega), show ((2 ^ k : Nat) : Int) - 1 = ((2 ^ k - 1 : Nat) : Int) by omega]
  unfold bt
  rw [Int.toNat_natCast, Int.toNat_natCast, Nat.testBit_two_pow_sub_one]
  by_cases e : j < k
  · rw [decide_eq_true e, decide_eq_true (show (j : Int) < (k : Int) by omega)]
  · rw [decide_eq_false e, decide_eq_false (show ¬ (j : Int) < (k : Int) by omega)]
theorem all_r {T : Int} (h : 0 ≤ T ∧ T ≤ 8) : 0 ≤ i_shl 1 T - 1 ∧ i_shl 1 T - 1 < 256 := by
  have := shl_T h; omega
theorem mayR {σ : Mem} (hM : MarkI σ) (d : Nat) {x done skip : Int} (hx : rg x) (hd : 0 ≤ done ∧ done < 2147483648) (hs : 0 ≤ skip ∧ skip < 2147483648) {Q : RV → Mem → Prop} (h : Q (rI (if mcB σ x done skip = true then 1 else 0)) σ) : Cl (d + 2) mR_mayCome [aR 64, aI x, aI done, aI skip] σ Q := by
  obtain ⟨-, ⟨n1, n2, n3, n4⟩, -, -, -, m5, -⟩ := hM
  refine bR_mayCome_in ?_
  have key : (∀ k : Int, 0 ≤ k → k < 0 → bt skip k = false → σ 85 k = x → bt done (σ 86 k) = true) → Ev (d + 2) mR_mayCome 3 [vR 64, vI x, vI done, vI skip, vI 0] [] σ Q := by
    refine loop_up (G := fun i => (∀ k : Int, 0 ≤ k → k < i → bt skip k = false → σ 85 k = x → bt done (σ 86 k) = true) → Ev (d + 2) mR_mayCome 3 [vR 64, vI x, vI done, vI skip, vI i] [] σ Q) (hi := σ 64 39) _ 0 rfl n3.1 (fun j j0 j1 g => ?_) ?_
    · intro hk
      obtain ⟨-, k4, k5, -, -⟩ := m5 j j0 j1
      refine bR_mayCome_3 ⟨⟨by omega, by omega⟩, ⟨by omega, by omega⟩, fun q => absurd q (by omega), fun _ => ⟨fun q => g (fun k k0 k1 a b => ?_), fun q => ⟨j0, (by omega), ⟨by omega, by omega⟩, hx, fun w => g (fun k k0 k1 a b => ?_), fun w => ⟨fun z => g (fun k k0 k1 a b => ?_), fun z => ?_⟩⟩⟩⟩
      · by_cases e : k = j
        · subst e
          rw [(hb_bt hs (by omega)).mp q] at a; cases a
        · exact hk k k0 (by omega) a b
      · by_cases e : k = j
        · subst e; exact absurd b w
        · exact hk k k0 (by omega) a b
      · by_cases e : k = j
        · subst e; exact (hb_bt hd (by omega)).mp z
        · exact hk k k0 (by omega) a b
      · rw [if_neg (fun y => ?_)] at h
        · exact h
        · refine z ((hb_bt hd (by omega)).mpr (mcB_iff.mp y j j0 j1 ?_ w))
          cases e : bt skip j
          · rfl
          · exact absurd ((hb_bt hs (by omega)).mpr e) q
    · intro hk
      rw [if_pos (mcB_iff.mpr hk)] at h
      exact bR_mayCome_3 ⟨⟨by omega, by omega⟩, ⟨by omega, by omega⟩, fun _ => h, fun q => absurd q (by omega)⟩
  exact key (fun k k0 k1 => absurd k1 (by omega))
/-- what x spoils of what is open -/
def hrm (σ : Mem) (x opn k : Int) : Int := if σ 85 k = x ∧ bt opn (σ 86 k) = true then σ 87 k else 0
theorem hrm_r {σ : Mem} (hM : MarkI σ) (x opn : Int) {i : Int} (hi : 0 ≤ i ∧ i ≤ σ 64 39) : 0 ≤ sumI (hrm σ x opn) i.toNat ∧ sumI (hrm σ x opn) i.toNat ≤ 90 := by
  obtain ⟨-, ⟨n1, n2, n3, n4⟩, -, -, -, m5, -⟩ := hM
  have := sumI_bd (f := hrm σ x opn) (a := 0) (b := 9) (n := i.toNat) (fun k k0 k1 => by
    obtain ⟨-, -, -, -, k7⟩ := m5 k k0 (by omega)
    unfold hrm; split <;> omega)
  omega
theorem harmC {σ : Mem} (hM : MarkI σ) (d : Nat) {x opn : Int} (hx : rg x) (hs : 0 ≤ opn ∧ opn < 2147483648) {Q : RV → Mem → Prop} (h : Q (rI (sumI (hrm σ x opn) (σ 64 39).toNat)) σ) : Cl (d + 1) mMk_harm [aR 14, aI x, aI opn] σ Q := by
  have hM' := hM
  obtain ⟨⟨m1, m2, m3, m4⟩, ⟨n1, n2, n3, n4⟩, -, -, -, m5, -⟩ := hM
  refine bMk_harm_in ?_
  have key : ∀ u5, Ev (d + 1) mMk_harm 5 [vR 14, vI x, vI opn, vI (sumI (hrm σ x opn) (0 : Int).toNat), vI 0, u5] [] σ Q := by
    refine loop_up (G := fun i => ∀ u5, Ev (d + 1) mMk_harm 5 [vR 14, vI x, vI opn, vI (sumI (hrm σ x opn) i.toNat), vI i, u5] [] σ Q) (hi := σ 64 39) _ 0 rfl n3.1 (fun j j0 j1 g => ?_) ?_
    · intro u5
      obtain ⟨⟨k1, k2, k3⟩, k4, k5, k6, k7⟩ := m5 j j0 j1
      rw [show (60 + 3 * j : Int) = 60 + j * 3 by omega] at k1 k2 k3
      have g1 := g (vI (60 + j * 3))
      rw [sumI_S j0] at g1
      refine bMk_harm_5 ⟨⟨by omega, by omega⟩, ⟨by omega, by omega⟩, fun q => absurd q (by omega), fun _ => ⟨(by omega), (by omega), ⟨by omega, by omega⟩, hx, fun q => ?_, fun q => ⟨(by omega), (by omega), rg_and _ _, fun w => ?_, fun w => ⟨(by omega), (by omega), ?_⟩⟩⟩⟩
      · rw [show hrm σ x opn j = 0 from if_neg (fun z => q (by rw [k1]; exact z.1)), Int.add_zero] at g1; exact g1
      · rw [k2] at w
        rw [show hrm σ x opn j = 0 from if_neg (fun z => w ((hb_bt hs (by omega)).mpr z.2)), Int.add_zero] at g1; exact g1
      · rw [k2] at w
        rw [show hrm σ x opn j = σ 87 j from if_pos ⟨by rw [← k1]; exact q, (hb_bt hs (by omega)).mp w⟩] at g1
        rw [k3]; exact g1
    · intro u5
      exact bMk_harm_5 ⟨⟨by omega, by omega⟩, ⟨by omega, by omega⟩, fun _ => h, fun q => absurd q (by omega)⟩
  exact key vU
theorem sumI_z {f : Int → Int} : ∀ {n : Nat}, (∀ i : Int, 0 ≤ i → i < (n : Int) → 0 ≤ f i) → (sumI f n = 0 ↔ ∀ i : Int, 0 ≤ i → i < (n : Int) → f i = 0)
  | 0, _ => ⟨fun _ i h0 h1 => absurd h1 (by omega), fun _ => rfl⟩
  | n + 1, h => by
    have ih := sumI_z (n := n) (fun i h0 h1 => h i h0 (by omega))
    have a := sumI_nn (n := n) (fun i h0 h1 => h i h0 (by omega))
    have b := h (Int.ofNat n) (Int.ofNat_nonneg n) (by show ((n : Nat) : Int) < _; omega)
    show sumI f n + f (Int.ofNat n) = 0 ↔ _
    constructor
    · intro e i h0 h1
      by_cases c : i = Int.ofNat n
      · rw [c]; omega
      · exact ih.mp (by omega) i h0 (by have : i ≠ ((n : Nat) : Int) := c; omega)
    · intro e
      have e1 := ih.mpr (fun i h0 h1 => e i h0 (by omega))
      have e2 := e (Int.ofNat n) (Int.ofNat_nonneg n) (by show ((n : Nat) : Int) < _; omega)
      omega
theorem harm0 {σ : Mem} (hM : MarkI σ) {x done opn : Int} (ho : ∀ u, 0 ≤ u → u < σ 64 37 → bt opn u = !bt done u) : sumI (hrm σ x opn) (σ 64 39).toNat = 0 ↔ mcB σ x done 0 = true := by
  obtain ⟨-, ⟨n1, n2, n3, n4⟩, -, -, -, m5, -⟩ := hM
  have hn : ((σ 64 39).toNat : Int) = σ 64 39 := Int.toNat_of_nonneg n3.1
  rw [sumI_z (fun k k0 k1 => by obtain ⟨-, -, -, -, k7⟩ := m5 k k0 (by omega); unfold hrm; split <;> omega), mcB_iff]
  constructor
  · intro h k k0 k1 _ e
    have a := h k k0 (by omega)
    obtain ⟨-, k4, k5, k6, k7⟩ := m5 k k0 k1
    unfold hrm at a
    have b := ho (σ 86 k) (by omega) (by omega)
    cases c : bt done (σ 86 k)
    · rw [c] at b
      rw [if_pos ⟨e, b⟩] at a
      omega
    · rfl
  · intro h k k0 k1
    obtain ⟨-, k4, k5, k6, k7⟩ := m5 k k0 (by omega)
    refine if_neg (fun z => ?_)
    have a := h k k0 (by omega) bt_0 z.1
    rw [ho (σ 86 k) (by omega) (by omega), a] at z
    exact absurd z.2 (by decide)
/-- the first that … -/
def fs (p : Int → Bool) : Nat → Int
  | 0 => -1
  | n + 1 => if fs p n ≠ -1 then fs p n else if p (Int.ofNat n) = true then Int.ofNat n else -1
theorem fs_S {p : Int → Bool} {i : Int} (h : 0 ≤ i) : fs p (i + 1).toNat = if fs p i.toNat ≠ -1 then fs p i.toNat else if p i = true then i else -1 := by
  rw [show (i + 1).toNat = i.toNat + 1 by omega]
  show (if fs p i.toNat ≠ -1 then fs p i.toNat else if p (Int.ofNat i.toNat) = true then Int.ofNat i.toNat else -1) = _
  rw [show Int.ofNat i.toNat = i from Int.toNat_of_nonneg h]
theorem fs_r {p : Int → Bool} : ∀ n : Nat, (fs p n = -1 ∧ ∀ k : Int, 0 ≤ k → k < (n : Int) → p k = false) ∨ (0 ≤ fs p n ∧ fs p n < (n : Int) ∧ p (fs p n) = true)
  | 0 => Or.inl ⟨rfl, fun k a b => absurd b (by omega)⟩
  | n + 1 => by
    unfold fs
    rcases fs_r (p := p) n with ⟨a, b⟩ | ⟨a, b, c⟩
    · rw [if_neg (fun z => z a)]
      by_cases e : p (Int.ofNat n) = true
      · rw [if_pos e]; exact Or.inr ⟨Int.ofNat_nonneg n, by show ((n : Nat) : Int) < _; omega, e⟩
      · rw [if_neg e]
        refine Or.inl ⟨rfl, fun k k0 k1 => ?_⟩
        by_cases f : k = Int.ofNat n
        · rw [f]; exact Bool.eq_false_iff.mpr e
        · exact b k k0 (by have : k ≠ ((n : Nat) : Int) := f; omega)
    · rw [if_pos (by omega)]; exact Or.inr ⟨a, (by omega), c⟩
theorem fs_up {p : Int → Bool} {m : Nat} (h : fs p m ≠ -1) : ∀ {n : Nat}, m ≤ n → fs p n = fs p m
  | 0, hn => by rw [show m = 0 by omega]
  | n + 1, hn => by
    by_cases e : m = n + 1
    · rw [e]
    · have ih := fs_up h (n := n) (by omega)
      show (if fs p n ≠ -1 then fs p n else _) = _
      rw [if_pos (by rw [ih]; exact h), ih]
/-- who comes next -/
def nxp (σ : Mem) (done skip : Int) (u : Int) : Bool := !bt done u && mcB σ u done skip
/-- the row on from here -/
def crw (σ : Mem) (skip : Int) : Nat → Int → Int → Int
  | 0, row, _ => row
  | n + 1, row, done => if fs (nxp σ done skip) (σ 64 37).toNat = -1 then -1 else crw σ skip n (10 * row + fs (nxp σ done skip) (σ 64 37).toNat) (ins done (fs (nxp σ done skip) (σ 64 37).toNat))
theorem crw_r {σ : Mem} (hM : MarkI σ) (skip : Int) : ∀ (n : Nat) (B row done : Int), 0 ≤ row ∧ row < B → -1 ≤ crw σ skip n row done ∧ crw σ skip n row done < B * 10 ^ n
  | 0, B, row, done, h => by show -1 ≤ row ∧ row < B * 1; omega
  | n + 1, B, row, done, h => by
    have hT := hM.2.1.1
    unfold crw
    rcases fs_r (p := nxp σ done skip) (σ 64 37).toNat with ⟨a, -⟩ | ⟨a, b, -⟩
    · rw [if_pos a]
      have : 0 < (10 : Int) ^ (n + 1) := Int.pow_pos (by decide)
      have : 0 ≤ B * 10 ^ (n + 1) := Int.mul_nonneg (by omega) (by omega)
      omega
    · rw [if_neg (by omega)]
      have := crw_r hM skip n (10 * B) (10 * row + fs (nxp σ done skip) (σ 64 37).toNat) (ins done (fs (nxp σ done skip) (σ 64 37).toNat)) ⟨by omega, by omega⟩
      rw [Int.pow_succ, Int.mul_comm (10 ^ n) 10, ← Int.mul_assoc, Int.mul_comm B 10]
      exact this
theorem crw_rg {σ : Mem} (hM : MarkI σ) (skip : Int) : rg (crw σ skip (σ 64 37).toNat 0 0) := by
  have hT := hM.2.1.1
  have h := crw_r hM skip (σ 64 37).toNat 1 0 0 (by decide)
  have h2 : (10 : Int) ^ (σ 64 37).toNat ≤ 10 ^ 8 := by
    have e : σ 64 37 = 0 ∨ σ 64 37 = 1 ∨ σ 64 37 = 2 ∨ σ 64 37 = 3 ∨ σ 64 37 = 4 ∨ σ 64 37 = 5 ∨ σ 64 37 = 6 ∨ σ 64 37 = 7 ∨ σ 64 37 = 8 := by omega
    rcases e with e | e | e | e | e | e | e | e | e <;> rw [e] <;> decide
  have h3 : (10 : Int) ^ 8 = 100000000 := by decide
  exact ⟨by omega, by omega⟩
theorem ifn1 (a b f : Int) (z : Bool) : (if (if a ≠ -1 then a else if z = true then b else -1) ≠ -1 then (if a ≠ -1 then a else if z = true then b else -1) else f) = if a ≠ -1 then a else if z = true ∧ b ≠ -1 then b else f := by
  by_cases c : a ≠ -1
  · rw [if_pos c, if_pos c, if_pos c]
  · rw [if_neg c, if_neg c]
    by_cases e : z = true
    · rw [if_pos e]
      by_cases g : b ≠ -1
      · rw [if_pos g, if_pos ⟨e, g⟩]
      · rw [if_neg g, if_neg (fun y => g y.2)]
    · rw [if_neg e, if_neg (fun y => y rfl), if_neg (fun y => e y.1)]
/-- the reference's clean row, some rules left out -/
theorem cleanR {σ : Mem} (hM : MarkI σ) (d : Nat) {skip : Int} (hs : 0 ≤ skip ∧ skip < 2147483648) {Q : RV → Mem → Prop} (h : Q (rI (crw σ skip (σ 64 37).toNat 0 0)) σ) : Cl (d + 3) mR_cleanRow [aR 64, aI skip] σ Q := by
  have hT := hM.2.1.1
  refine bR_cleanRow_in ?_
  have key : ∀ (n : Nat) (row done : Int) (u5 u6 : Option AV), (n : Int) ≤ σ 64 37 → st8 done → Q (rI (crw σ skip n row done)) σ → Ev (d + 3) mR_cleanRow 7 [vR 64, vI skip, vI row, vI done, vI (σ 64 37 - n), u5, u6] [] σ Q := by
    intro n
    induction n with
    | zero =>
      intro row done u5 u6 hn hd h
      exact bR_cleanRow_7 ⟨⟨by omega, by omega⟩, ⟨by omega, by omega⟩, fun _ => h, fun q => absurd q (by omega)⟩
    | succ n ih =>
      intro row done u5 u6 hn hd h
      refine bR_cleanRow_7 ⟨⟨by omega, by omega⟩, ⟨by omega, by omega⟩, fun q => absurd q (by omega), fun _ => ?_⟩
      -- from the last down to the first
      have down : ∀ (k : Nat) (f : Int), (k : Int) ≤ σ 64 37 → (if fs (nxp σ done skip) k ≠ -1 then fs (nxp σ done skip) k else f) = fs (nxp σ done skip) (σ 64 37).toNat → -1 ≤ f ∧ f < σ 64 37 → Ev (d + 3) mR_cleanRow 27 [vR 64, vI skip, vI row, vI done, vI (σ 64 37 - ((n + 1 : Nat) : Int)), vI f, vI ((k : Int) - 1)] [] σ Q := by
        intro k
        induction k with
        | zero =>
          intro f hk hf fr
          rw [if_neg (show ¬ fs (nxp σ done skip) 0 ≠ -1 from fun z => z rfl)] at hf
          unfold crw at h
          rw [← hf] at h
          refine bR_cleanRow_27 ⟨⟨by omega, by omega⟩, fun _ => ⟨⟨by omega, by omega⟩, fun q => ?_, fun q => ?_⟩, fun q => absurd q (by omega)⟩
          · rw [if_neg q] at h
            have hi := ins_lt (m := 8) hd ⟨show 0 ≤ f by omega, by omega⟩ (by decide)
            have := ih _ _ (vI f) (vI (((0 : Nat) : Int) - 1)) (by omega) hi h
            rw [show σ 64 37 - ((n + 1 : Nat) : Int) + 1 = σ 64 37 - (n : Int) by omega]
            exact this
          · rw [if_pos q] at h; exact h
        | succ k ik =>
          intro f hk hf fr
          have e : (((k + 1 : Nat) : Int) - 1) = (k : Int) := by omega
          have e2 : (k : Int) + (-1) = (k : Int) - 1 := by omega
          rw [e]
          have un : fs (nxp σ done skip) (k + 1) = if fs (nxp σ done skip) k ≠ -1 then fs (nxp σ done skip) k else if nxp σ done skip (k : Int) = true then (k : Int) else -1 := rfl
          rw [un] at hf
          -- not it
          have no : nxp σ done skip (k : Int) = false → Ev (d + 3) mR_cleanRow 27 [vR 64, vI skip, vI row, vI done, vI (σ 64 37 - ((n + 1 : Nat) : Int)), vI f, vI ((k : Int) + (-1))] [] σ Q := by
            intro z
            rw [e2]
            refine ik f (by omega) ?_ fr
            rw [ifn1, if_neg (show ¬ (nxp σ done skip (k : Int) = true ∧ (k : Int) ≠ -1) from fun y => by rw [z] at y; exact absurd y.1 (by decide))] at hf
            exact hf
          refine bR_cleanRow_27 ⟨⟨by omega, by omega⟩, fun q => absurd q (by omega), fun _ => ⟨fun q => no ?_, fun q => mayR hM d ⟨by omega, by omega⟩ ⟨hd.1, (by omega)⟩ hs ⟨by split <;> decide, fun w => no ?_, fun w => ?_⟩⟩⟩
          · unfold nxp; rw [(hb_bt ⟨hd.1, (by omega)⟩ (by omega)).mp q]; rfl
          · unfold nxp
            by_cases c : mcB σ (k : Int) done skip = true
            · rw [if_pos c] at w; exact absurd w (by decide)
            · rw [Bool.eq_false_iff.mpr c, Bool.and_false]
          · have c : mcB σ (k : Int) done skip = true := by
              by_cases c : mcB σ (k : Int) done skip = true
              · exact c
              · rw [if_neg c] at w; exact absurd rfl w
            have z : nxp σ done skip (k : Int) = true := by
              unfold nxp
              rw [c, Bool.and_true]
              cases e : bt done (k : Int)
              · rfl
              · exact absurd ((hb_bt ⟨hd.1, (by omega)⟩ (by omega)).mpr e) q
            rw [e2]
            refine ik (k : Int) (by omega) ?_ ⟨by omega, by omega⟩
            rw [ifn1, if_pos (show nxp σ done skip (k : Int) = true ∧ (k : Int) ≠ -1 from ⟨z, by omega⟩)] at hf
            exact hf
      have := down (σ 64 37).toNat (-1) (by omega) ?_ (by omega)
      · rw [Int.toNat_of_nonneg hT.1] at this; exact this
      · by_cases c : fs (nxp σ done skip) (σ 64 37).toNat ≠ -1
        · rw [if_pos c]
        · rw [if_neg c]; exact (Decidable.not_not.mp c).symm
  have := key (σ 64 37).toNat 0 0 vU vU (by omega) (by decide) h
  rw [Int.toNat_of_nonneg hT.1, Int.sub_self] at this
  exact this
theorem lowestC {σ : Mem} (hM : MarkI σ) (d : Nat) {done opn : Int} (hd : 0 ≤ opn ∧ opn < 2147483648) (ho : ∀ u, 0 ≤ u → u < σ 64 37 → bt opn u = !bt done u) {Q : RV → Mem → Prop} (h : Q (rI (fs (nxp σ done 0) (σ 64 37).toNat)) σ) : Cl (d + 2) mMk_lowestHarmless [aR 14, aI opn] σ Q := by
  have hM' := hM
  obtain ⟨⟨m1, m2, m3, m4⟩, ⟨n1, n2, n3, n4⟩, -⟩ := hM
  refine bMk_lowestHarmless_in ?_
  refine loop_up (G := fun i => fs (nxp σ done 0) i.toNat = -1 → Ev (d + 2) mMk_lowestHarmless 2 [vR 14, vI opn, vI i] [] σ Q) (hi := σ 64 37) _ 0 rfl n1.1 (fun j j0 j1 g => ?_) ?_ rfl
  · intro hf
    have un := fs_S (p := nxp σ done 0) j0
    rw [if_neg (fun z => z hf)] at un
    have hr := hrm_r hM' j opn (i := σ 64 39) ⟨n3.1, Int.le_refl _⟩
    refine bMk_lowestHarmless_2 ⟨⟨by omega, by omega⟩, ⟨by omega, by omega⟩, fun q => absurd q (by omega), fun _ => ⟨rg_and _ _, fun q => g ?_, fun q => harmC hM' d ⟨by omega, by omega⟩ hd ⟨⟨by omega, by omega⟩, fun w => g ?_, fun w => ?_⟩⟩⟩
    · rw [un, if_neg]
      unfold nxp
      have : bt opn j = false := Bool.eq_false_iff.mpr (fun z => q ((hb_bt hd (by omega)).mpr z))
      rw [ho j j0 j1] at this
      rw [this, Bool.false_and]; decide
    · rw [un, if_neg]
      unfold nxp
      rw [Bool.eq_false_iff.mpr (fun z => w ((harm0 hM' ho).mpr z)), Bool.and_false]; decide
    · have z : nxp σ done 0 j = true := by
        unfold nxp
        rw [← ho j j0 j1, (hb_bt hd (by omega)).mp q, (harm0 hM' ho).mp w]; rfl
      rw [if_pos z] at un
      rw [fs_up (m := (j + 1).toNat) (by rw [un]; omega) (by omega), un] at h
      exact h
  · intro hf
    rw [hf] at h
    exact bMk_lowestHarmless_2 ⟨⟨by omega, by omega⟩, ⟨by omega, by omega⟩, fun _ => h, fun q => absurd q (by omega)⟩
theorem cleanC {σ : Mem} (hM : MarkI σ) (d : Nat) {Q : RV → Mem → Prop} (h : Q (rI (crw σ 0 (σ 64 37).toNat 0 0)) σ) : Cl (d + 3) mMk_cleanRow [aR 14] σ Q := by
  have hM' := hM
  obtain ⟨⟨m1, m2, m3, m4⟩, ⟨n1, n2, n3, n4⟩, -⟩ := hM
  refine bMk_cleanRow_in ?_
  have key : ∀ (n : Nat) (row done opn : Int) (u4 : Option AV), (n : Int) ≤ σ 64 37 → st8 done → st8 opn → (∀ u, 0 ≤ u → u < σ 64 37 → bt opn u = !bt done u) → Q (rI (crw σ 0 n row done)) σ → Ev (d + 3) mMk_cleanRow 9 [vR 14, vI row, vI opn, vI (σ 64 37 - n), u4] [] σ Q := by
    intro n
    induction n with
    | zero =>
      intro row done opn u4 hn hd hp ho h
      exact bMk_cleanRow_9 ⟨⟨by omega, by omega⟩, ⟨by omega, by omega⟩, fun _ => h, fun q => absurd q (by omega)⟩
    | succ n ih =>
      intro row done opn u4 hn hd hp ho h
      unfold crw at h
      have fr := fs_r (p := nxp σ done 0) (σ 64 37).toNat
      refine bMk_cleanRow_9 ⟨⟨by omega, by omega⟩, ⟨by omega, by omega⟩, fun q => absurd q (by omega), fun _ => lowestC hM' d ⟨hp.1, (by omega)⟩ ho ⟨by omega, fun q => ?_, fun q => ?_⟩⟩
      · rw [if_neg q] at h
        have fb : 0 ≤ fs (nxp σ done 0) (σ 64 37).toNat ∧ fs (nxp σ done 0) (σ 64 37).toNat < σ 64 37 := by omega
        generalize fs (nxp σ done 0) (σ 64 37).toNat = t at *
        have hi := ins_lt (m := 8) hd ⟨fb.1, by omega⟩ (by decide)
        have sl := bt_sh (w := t) (u := 0) ⟨fb.1, (by omega)⟩ (by decide)
        have s1 : 0 ≤ i_shl 1 t ∧ i_shl 1 t < 2147483648 := by have := shl_T (T := t) ⟨by omega, by omega⟩; omega
        have hdf := dif_lt (m := 8) hp s1 (by decide)
        have := ih (10 * row + t) (ins done t) (dif opn (i_shl 1 t)) (vI t) (by omega) hi hdf (fun u u0 u1 => ?_) h
        · rw [show σ 64 37 - ((n + 1 : Nat) : Int) + 1 = σ 64 37 - (n : Int) by omega, show row * 10 + t = 10 * row + t by omega]
          exact this
        · rw [bt_dif ⟨hp.1, (by omega)⟩ s1 ⟨by omega, by omega⟩, bt_ins ⟨hd.1, (by omega)⟩ ⟨by omega, by omega⟩ u0, bt_sh ⟨by omega, by omega⟩ u0, ho u u0 u1, Bool.not_or]
      · rw [if_pos q] at h; exact h
  have ar := all_r n1
  have := key (σ 64 37).toNat 0 0 (i_shl 1 (σ 64 37) - 1) vU (by omega) (by decide) ar (fun u u0 u1 => by rw [bt_all n1 u0, bt_0, decide_eq_true u1]; rfl) h
  rw [Int.toNat_of_nonneg n1.1, Int.sub_self] at this
  rw [m1]
  exact this
theorem c_clean : ∀ (σ : Mem), Inv σ → Pair mF_clean mR_clean [] σ := by
  intro σ hI
  have hM := hI.1.2.1
  obtain ⟨⟨m1, m2, m3, m4⟩, ⟨n1, n2, n3, n4⟩, -⟩ := hI.1.2.1
  by_cases hx : σ 64 37 = 0
  · refine pair_q (v := -1) hI (by decide) ?_ ?_
    · exact bF_clean_in (d := 995) ⟨⟨by omega, by omega⟩, fun q => absurd q (by omega), fun _ => ⟨rfl, rfl⟩⟩
    · exact bR_clean_in (d := 995) ⟨⟨by omega, by omega⟩, fun q => absurd hx q, fun _ => ⟨rfl, rfl⟩⟩
  · refine pair_q (v := crw σ 0 (σ 64 37).toNat 0 0) hI (crw_rg hM 0) ?_ ?_
    · exact bF_clean_in (d := 995) ⟨⟨by omega, by omega⟩, fun _ => cleanC hM 995 ⟨rfl, rfl⟩, fun q => absurd (show 0 < σ 15 0 by omega) q⟩
    · exact bR_clean_in (d := 995) ⟨⟨by omega, by omega⟩, fun _ => cleanR hM 995 (by decide) ⟨rfl, rfl⟩, fun q => absurd q hx⟩
