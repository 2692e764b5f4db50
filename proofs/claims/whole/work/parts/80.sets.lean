/-! ===== SETS OF WHAT IS HELD ===== -/
def bldS (p : Int → Bool) : Nat → Int
  | 0 => 0
  | n + 1 => if p (Int.ofNat n) = true then ins (bldS p n) (Int.ofNat n) else bldS p n
theorem bldS_S {p : Int → Bool} {i : Int} (h : 0 ≤ i) : bldS p (i + 1).toNat = if p i = true then ins (bldS p i.toNat) i else bldS p i.toNat := by
  rw [show (i + 1).toNat = i.toNat + 1 by omega]
  show (if p (Int.ofNat i.toNat) = true then ins (bldS p i.toNat) (Int.ofNat i.toNat) else bldS p i.toNat) = _
  rw [show Int.ofNat i.toNat = i from Int.toNat_of_nonneg h]
theorem bldS_r {p : Int → Bool} : ∀ n : Nat, n ≤ 8 → (0 ≤ bldS p n ∧ bldS p n < 2 ^ n) ∧ ∀ u : Int, 0 ≤ u → bt (bldS p n) u = (decide (u < (n : Int)) && p u)
  | 0, _ => ⟨by show (0 : Int) ≤ 0 ∧ (0 : Int) < 2 ^ 0; decide, fun u u0 => by show bt 0 u = _; rw [bt_0, decide_eq_false (show ¬ u < ((0 : Nat) : Int) by omega)]; rfl⟩
  | n + 1, hn => by
    obtain ⟨a, b⟩ := bldS_r (p := p) n (by omega)
    have p2 := p2_le (T := (n : Int)) ⟨by omega, by omega⟩
    rw [Int.toNat_natCast] at p2
    have h2 : (2 : Int) ^ (n + 1) = 2 * 2 ^ n := by rw [Int.pow_succ]; omega
    unfold bldS
    by_cases c : p (Int.ofNat n) = true
    · rw [if_pos c]
      rw [show Int.ofNat n = (n : Int) from rfl] at c ⊢
      refine ⟨ins_lt (m := n + 1) ⟨by omega, by omega⟩ ⟨by omega, by omega⟩ (by omega), fun k k0 => ?_⟩
      rw [bt_ins ⟨by omega, by omega⟩ ⟨by omega, by omega⟩ k0, b k k0]
      by_cases e : k = (n : Int)
      · rw [e, decide_eq_true rfl, Bool.or_true, c, decide_eq_true (show (n : Int) < ((n + 1 : Nat) : Int) by omega)]; rfl
      · rw [decide_eq_false e, Bool.or_false]
        by_cases f : k < (n : Int)
        · rw [decide_eq_true f, decide_eq_true (show k < ((n + 1 : Nat) : Int) by omega)]
        · rw [decide_eq_false f, decide_eq_false (show ¬ k < ((n + 1 : Nat) : Int) by omega)]
    · rw [if_neg c]
      refine ⟨⟨by omega, by omega⟩, fun k k0 => ?_⟩
      rw [b k k0]
      by_cases e : k = (n : Int)
      · rw [show Int.ofNat n = (n : Int) from rfl] at c
        rw [e, Bool.eq_false_iff.mpr c, Bool.and_false, Bool.and_false]
      · by_cases f : k < (n : Int)
        · rw [decide_eq_true f, decide_eq_true (show k < ((n + 1 : Nat) : Int) by omega)]
        · rw [decide_eq_false f, decide_eq_false (show ¬ k < ((n + 1 : Nat) : Int) by omega)]
/-- the firsts that one holds -/
def hdm (m : Int → Int) (p T : Int) : Int := bldS (fun t => decide (0 < m (8 * p + t))) T.toNat
theorem hdm_r {m : Int → Int} {p T : Int} (hT : 0 ≤ T ∧ T ≤ 8) : (0 ≤ hdm m p T ∧ hdm m p T < 2 ^ T.toNat) ∧ st8 (hdm m p T) ∧ ∀ u : Int, 0 ≤ u → (bt (hdm m p T) u = true ↔ u < T ∧ 0 < m (8 * p + u)) := by
  obtain ⟨a, b⟩ := bldS_r (p := fun t => decide (0 < m (8 * p + t))) T.toNat (by omega)
  have p2 := p2_le hT
  have a' : 0 ≤ hdm m p T ∧ hdm m p T < 2 ^ T.toNat := a
  refine ⟨a', ⟨by omega, by omega⟩, fun u u0 => ?_⟩
  rw [show bt (hdm m p T) u = _ from b u u0, Bool.and_eq_true, decide_eq_true_iff, decide_eq_true_iff, Int.toNat_of_nonneg hT.1]
theorem heldBy37 {σ : Mem} {m : Int → Int} {T P D B : Int} (hM : MarkI σ) (hS : RowS (σ 38) m) (hW : RowW T P D B m) (hB : B ≤ 47952) (d : Nat) {p : Int} (hp : 0 ≤ p ∧ p < 6) {Q : RV → Mem → Prop} (h : Q (rI (hdm m p (σ 64 37))) σ) : Cl (d + 3) mSt_heldBy [aR 37, aI p] σ Q := by
  have nT := hM.2.1.1
  have m1 := hM.1.1
  refine bSt_heldBy_r37_in ?_
  refine loop_up (G := fun i => Ev (d + 3) mSt_heldBy 4 [vR 37, vI p, vI (bldS (fun t => decide (0 < m (8 * p + t))) i.toNat), vI i] [] σ Q) (hi := σ 64 37) _ 0 rfl nT.1 (fun t t0 t1 g => ?_) ?_
  · have e : σ 38 (27 + p * 8 + t) = m (8 * p + t) := Cor.eq hS (Cor.fst hp ⟨by omega, by omega⟩)
    have f48 := hW.f48 hB (i := 8 * p + t) (by omega) (by omega)
    rw [bldS_S t0] at g
    refine bSt_heldBy_r37_4 ⟨⟨by omega, by omega⟩, ⟨by omega, by omega⟩, fun q => absurd q (by omega), fun _ => ⟨(by omega), (by omega), by rw [e]; exact ⟨by omega, by omega⟩, fun q => ?_, fun q => ?_⟩⟩
    · rw [e] at q
      rw [if_neg (by rw [decide_eq_true_iff]; omega)] at g; exact g
    · rw [e] at q
      rw [if_pos (by rw [decide_eq_true_iff]; exact q)] at g; exact g
  · exact bSt_heldBy_r37_4 ⟨⟨by omega, by omega⟩, ⟨by omega, by omega⟩, fun _ => h, fun q => absurd q (by omega)⟩
/-- the eye looks at one: a table of joys for what one has had -/
theorem lookS37 {σ : Mem} {o : Option (List Cla)} (hM : MarkI σ) (hH : Held σ o) {T P D B : Int} {m : Int → Int} (hS : RowS (σ 38) m) (hW : RowW T P D B m) (hT : T = σ 64 37) (hD : D ≤ 4000) (d : Nat) {p k j : Int} (hp : 0 ≤ p ∧ p < σ 64 38) (hk : 0 ≤ k ∧ k ≤ 100) (hj : 0 ≤ j ∧ j ≤ 8) {Q : RV → Mem → Prop}
    (hQ : ∀ τ, Sm σ τ [28, 45, 46] [] → (∀ h x, bcF (m (48 + p)) ≤ h → h ≤ min (σ 64 37) (bcF (m (48 + p)) + j) → 0 ≤ x → x < σ 64 37 → τ 46 (h * 8 + x) = whF o (ltr (σ 82 x) (σ 83 x) (m 72 + k) (min 99 (m (66 + p) + k)) (m (60 + p)) (if σ 84 p = x then 1 else 0) h)) → Q rV τ) : Cl (d + 5) mEy_look [aR 44, aR 37, aI p, aI k, aI j] σ Q := by
  subst hT
  have nT := hM.2.1.1
  have nP := hM.2.1.2.1
  obtain ⟨b1, b2, b3, b4⟩ := hW.ltB nT (by omega) (p := p) (by omega)
  have e0 : σ 38 0 = m 72 := hS.1.1
  have e1 : σ 38 (3 + p * 4 + 1) = m (66 + p) := Cor.eq hS (Cor.age (by omega))
  have e2 : σ 38 (3 + p * 4 + 0) = m (60 + p) := Cor.eq hS (Cor.money (by omega))
  have e3 : σ 38 (3 + p * 4 + 3) = m (48 + p) := Cor.eq hS (Cor.had (by omega))
  have f72 := hW.2.2.2.2.2.1
  exact look37 hM hH d (D := m 72 + k) (G := min 99 (m (66 + p) + k)) (M := m (60 + p)) (h0 := bcF (m (48 + p))) hp hk hj (by rw [e0]) (by rw [e1]) (by rw [e1]; exact b4) e2 (by rw [e3]) ⟨(by omega), (by omega), b1.2.2.1, b1.2.2.2⟩ b3 hQ
theorem heldBy39 {σ : Mem} {m : Int → Int} {T P D B : Int} (hM : MarkI σ) (hS : RowS (σ 40) m) (hW : RowW T P D B m) (hB : B ≤ 47952) (d : Nat) {p : Int} (hp : 0 ≤ p ∧ p < 6) {Q : RV → Mem → Prop} (h : Q (rI (hdm m p (σ 64 37))) σ) : Cl (d + 3) mSt_heldBy [aR 39, aI p] σ Q := by
  have nT := hM.2.1.1
  have m1 := hM.1.1
  refine bSt_heldBy_r39_in ?_
  refine loop_up (G := fun i => Ev (d + 3) mSt_heldBy 4 [vR 39, vI p, vI (bldS (fun t => decide (0 < m (8 * p + t))) i.toNat), vI i] [] σ Q) (hi := σ 64 37) _ 0 rfl nT.1 (fun t t0 t1 g => ?_) ?_
  · have e : σ 40 (27 + p * 8 + t) = m (8 * p + t) := Cor.eq hS (Cor.fst hp ⟨by omega, by omega⟩)
    have f48 := hW.f48 hB (i := 8 * p + t) (by omega) (by omega)
    rw [bldS_S t0] at g
    refine bSt_heldBy_r39_4 ⟨⟨by omega, by omega⟩, ⟨by omega, by omega⟩, fun q => absurd q (by omega), fun _ => ⟨(by omega), (by omega), by rw [e]; exact ⟨by omega, by omega⟩, fun q => ?_, fun q => ?_⟩⟩
    · rw [e] at q
      rw [if_neg (by rw [decide_eq_true_iff]; omega)] at g; exact g
    · rw [e] at q
      rw [if_pos (by rw [decide_eq_true_iff]; exact q)] at g; exact g
  · exact bSt_heldBy_r39_4 ⟨⟨by omega, by omega⟩, ⟨by omega, by omega⟩, fun _ => h, fun q => absurd q (by omega)⟩
/-- the eye looks at one: a table of joys for what one has had -/
theorem lookS39 {σ : Mem} {o : Option (List Cla)} (hM : MarkI σ) (hH : Held σ o) {T P D B : Int} {m : Int → Int} (hS : RowS (σ 40) m) (hW : RowW T P D B m) (hT : T = σ 64 37) (hD : D ≤ 4000) (d : Nat) {p k j : Int} (hp : 0 ≤ p ∧ p < σ 64 38) (hk : 0 ≤ k ∧ k ≤ 100) (hj : 0 ≤ j ∧ j ≤ 8) {Q : RV → Mem → Prop}
    (hQ : ∀ τ, Sm σ τ [28, 45, 46] [] → (∀ h x, bcF (m (48 + p)) ≤ h → h ≤ min (σ 64 37) (bcF (m (48 + p)) + j) → 0 ≤ x → x < σ 64 37 → τ 46 (h * 8 + x) = whF o (ltr (σ 82 x) (σ 83 x) (m 72 + k) (min 99 (m (66 + p) + k)) (m (60 + p)) (if σ 84 p = x then 1 else 0) h)) → Q rV τ) : Cl (d + 5) mEy_look [aR 44, aR 39, aI p, aI k, aI j] σ Q := by
  subst hT
  have nT := hM.2.1.1
  have nP := hM.2.1.2.1
  obtain ⟨b1, b2, b3, b4⟩ := hW.ltB nT (by omega) (p := p) (by omega)
  have e0 : σ 40 0 = m 72 := hS.1.1
  have e1 : σ 40 (3 + p * 4 + 1) = m (66 + p) := Cor.eq hS (Cor.age (by omega))
  have e2 : σ 40 (3 + p * 4 + 0) = m (60 + p) := Cor.eq hS (Cor.money (by omega))
  have e3 : σ 40 (3 + p * 4 + 3) = m (48 + p) := Cor.eq hS (Cor.had (by omega))
  have f72 := hW.2.2.2.2.2.1
  exact look39 hM hH d (D := m 72 + k) (G := min 99 (m (66 + p) + k)) (M := m (60 + p)) (h0 := bcF (m (48 + p))) hp hk hj (by rw [e0]) (by rw [e1]) (by rw [e1]; exact b4) e2 (by rw [e3]) ⟨(by omega), (by omega), b1.2.2.1, b1.2.2.2⟩ b3 hQ
/-- somebody holds it -/
def anh (m : Int → Int) (x : Int) : Nat → Bool
  | 0 => false
  | n + 1 => anh m x n || decide (0 < m (8 * Int.ofNat n + x))
theorem anh_S {m : Int → Int} {x i : Int} (h : 0 ≤ i) : anh m x (i + 1).toNat = (anh m x i.toNat || decide (0 < m (8 * i + x))) := by
  rw [show (i + 1).toNat = i.toNat + 1 by omega]
  show (anh m x i.toNat || decide (0 < m (8 * Int.ofNat i.toNat + x))) = _
  rw [show Int.ofNat i.toNat = i from Int.toNat_of_nonneg h]
theorem anh_up {m : Int → Int} {x : Int} : ∀ {a b : Nat}, a ≤ b → anh m x a = true → anh m x b = true
  | a, 0, h, e => by rw [show a = 0 by omega] at e; exact e
  | a, b + 1, h, e => by
    by_cases c : a = b + 1
    · rw [← c]; exact e
    · show (anh m x b || _) = true
      rw [anh_up (b := b) (by omega) e]; rfl
/-- what anybody holds -/
def ham (m : Int → Int) (T P : Int) : Int := bldS (fun t => anh m t P.toNat) T.toNat
theorem ham_r {m : Int → Int} {T P : Int} (hT : 0 ≤ T ∧ T ≤ 8) : (0 ≤ ham m T P ∧ ham m T P < 2 ^ T.toNat) ∧ st8 (ham m T P) ∧ ∀ u : Int, 0 ≤ u → (bt (ham m T P) u = (decide (u < T) && anh m u P.toNat)) := by
  obtain ⟨a, b⟩ := bldS_r (p := fun t => anh m t P.toNat) T.toNat (by omega)
  have p2 := p2_le hT
  have a' : 0 ≤ ham m T P ∧ ham m T P < 2 ^ T.toNat := a
  refine ⟨a', ⟨by omega, by omega⟩, fun u u0 => ?_⟩
  rw [show bt (ham m T P) u = _ from b u u0, Int.toNat_of_nonneg hT.1]
theorem bt_hi {s u : Int} {n : Nat} (hs : 0 ≤ s ∧ s < 2 ^ n) (hu : (n : Int) ≤ u) : bt s u = false := by
  obtain ⟨a, rfl⟩ : ∃ n : Nat, s = (n : Int) := ⟨_, toN hs.1⟩
  obtain ⟨k, rfl⟩ : ∃ n : Nat, u = (n : Int) := ⟨_, toN (by omega)⟩
  refine Nat.testBit_lt_two_pow ?_
  have h2 : a < 2 ^ n := by exact_mod_cast hs.2
  exact Nat.lt_of_lt_of_le h2 (Nat.pow_le_pow_right (by decide) (by omega))
theorem or_lt {s t : Int} {n : Nat} (hs : 0 ≤ s ∧ s < 2 ^ n) (ht : 0 ≤ t ∧ t < 2 ^ n) (hn : n ≤ 31) : 0 ≤ i_or s t ∧ i_or s t < 2 ^ n := by
  have p2 : (2 : Nat) ^ n ≤ 2 ^ 31 := Nat.pow_le_pow_right (by decide) hn
  obtain ⟨a, rfl⟩ : ∃ n : Nat, s = (n : Int) := ⟨_, toN hs.1⟩
  obtain ⟨b, rfl⟩ : ∃ n : Nat, t = (n : Int) := ⟨_, toN ht.1⟩
  have ha : a < 2 ^ n := by exact_mod_cast hs.2
  have hb : b < 2 ^ n := by exact_mod_cast ht.2
  rw [i_or_n (by omega) (by omega)]
  exact ⟨(by omega), by exact_mod_cast Nat.or_lt_two_pow ha hb⟩
theorem bt_or {s t u : Int} (hs : 0 ≤ s ∧ s < 2147483648) (ht : 0 ≤ t ∧ t < 2147483648) : bt (i_or s t) u = (bt s u || bt t u) := by
  obtain ⟨a, rfl⟩ : ∃ n : Nat, s = (n : Int) := ⟨_, toN hs.1⟩
  obtain ⟨b, rfl⟩ : ∃ n : Nat, t = (n : Int) := ⟨_, toN ht.1⟩
  rw [i_or_n (by omega) (by omega)]
  unfold bt
  rw [Int.toNat_natCast, Int.toNat_natCast, Int.toNat_natCast, Nat.testBit_or]
theorem heldAnyC {σ : Mem} {m : Int → Int} {T P D B : Int} (hM : MarkI σ) (hS : RowS (σ 38) m) (hW : RowW T P D B m) (hB : B ≤ 47952) (d : Nat) {Q : RV → Mem → Prop} (h : Q (rI (ham m (σ 64 37) (σ 64 38))) σ) : Cl (d + 4) mSt_heldByAny [aR 37] σ Q := by
  have nT := hM.2.1.1
  have nP := hM.2.1.2.1
  have m1 := hM.1.1
  have m2 := hM.1.2.1
  have hr := ham_r (m := m) (P := σ 64 38) nT
  refine bSt_heldByAny_in ?_
  refine loop_up (G := fun i => ∀ s, (0 ≤ s ∧ s < 2 ^ (σ 64 37).toNat) → (∀ u, 0 ≤ u → u < σ 64 37 → bt s u = anh m u i.toNat) → Ev (d + 4) mSt_heldByAny 4 [vR 37, vI s, vI i] [] σ Q) (hi := σ 64 38) _ 0 rfl nP.1 (fun p p0 p1 g => ?_) ?_ 0 ⟨by decide, Int.pow_pos (by decide)⟩ (fun u _ _ => bt_0)
  · intro s hs hb
    obtain ⟨k1, k2, k3⟩ := hdm_r (m := m) (p := p) nT
    have p2 := p2_le nT
    refine bSt_heldByAny_4 ⟨⟨by omega, by omega⟩, ⟨by omega, by omega⟩, fun q => absurd q (by omega), fun _ => heldBy37 hM hS hW hB d ⟨by omega, by omega⟩ (g _ (or_lt hs k1 (by omega)) (fun u u0 u1 => ?_))⟩
    rw [bt_or ⟨by omega, by omega⟩ ⟨by omega, by omega⟩, hb u u0 u1, anh_S p0]
    congr 1
    rw [Bool.eq_iff_iff, k3 u u0, decide_eq_true_iff]
    exact ⟨fun z => z.2, fun z => ⟨u1, z⟩⟩
  · intro s hs hb
    have p2 := p2_le nT
    have e : s = ham m (σ 64 37) (σ 64 38) := by
      refine bt_ext ⟨by omega, by omega⟩ hr.2.1 (fun u u0 _ => ?_)
      rw [hr.2.2 u u0]
      by_cases c : u < σ 64 37
      · rw [hb u u0 c, decide_eq_true c, Bool.true_and]
      · rw [decide_eq_false c, Bool.false_and, bt_hi hs (by omega)]
    rw [e]
    exact bSt_heldByAny_4 ⟨⟨by omega, by omega⟩, ⟨by omega, by omega⟩, fun _ => h, fun q => absurd q (by omega)⟩
theorem heldSomeR {σ : Mem} {T P D B : Int} (hW : RowW T P D B (σ 81)) (hB : B ≤ 47952) (hP : 0 ≤ σ 64 38 ∧ σ 64 38 ≤ 6) (d : Nat) {x : Int} (hx : 0 ≤ x ∧ x < 8) {Q : RV → Mem → Prop} (h : Q (rI (if anh (σ 81) x (σ 64 38).toNat = true then 1 else 0)) σ) : Cl (d + 2) mR_isHeldBySomebody [aR 64, aI x] σ Q := by
  refine bR_isHeldBySomebody_in ?_
  refine loop_up (G := fun i => anh (σ 81) x i.toNat = false → Ev (d + 2) mR_isHeldBySomebody 2 [vR 64, vI x, vI i] [] σ Q) (hi := σ 64 38) _ 0 rfl hP.1 (fun p p0 p1 g => ?_) ?_ rfl
  · intro hf
    have f48 := hW.f48 hB (i := 8 * p + x) (by omega) (by omega)
    have sS := anh_S (m := σ 81) (x := x) p0
    rw [hf, Bool.false_or] at sS
    refine bR_isHeldBySomebody_2 ⟨⟨by omega, by omega⟩, ⟨by omega, by omega⟩, fun q => absurd q (by omega), fun _ => ⟨(by omega), (by omega), ⟨by omega, by omega⟩, fun q => g ?_, fun q => ?_⟩⟩
    · rw [sS, decide_eq_false (by omega)]
    · rw [if_pos (anh_up (a := (p + 1).toNat) (by omega) (by rw [sS, decide_eq_true q]))] at h
      exact h
  · intro hf
    rw [hf, if_neg (by decide)] at h
    exact bR_isHeldBySomebody_2 ⟨⟨by omega, by omega⟩, ⟨by omega, by omega⟩, fun _ => h, fun q => absurd q (by omega)⟩
