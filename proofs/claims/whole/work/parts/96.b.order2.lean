/-! ===== ORDER, BY THE REFERENCE ===== -/
theorem wjv_m {σ : Mem} {o : Option (List Cla)} {m m' : Int → Int} {p : Int} (h1 : m' 72 = m 72) (h2 : m' (66 + p) = m (66 + p)) (h3 : m' (60 + p) = m (60 + p)) : wjv σ o m' p = wjv σ o m p := by
  funext s x
  unfold wjv
  rw [h1, h2, h3]
theorem gn1q_o {m : Int → Int} {p x g i : Int} (h1 : i ≠ 8 * p + x) (h2 : i ≠ 48 + p) (h3 : i ≠ 54 + p) : gn1 1 m p x g i = m i := by
  unfold gn1
  rw [if_neg (by decide)]
  exact gnB_o h1 h2 h3
/-- what a quiet having leaves -/
theorem gnLq_o {m : Int → Int} {p T i : Int} (hT : T ≤ 8) (h1 : ¬ (8 * p ≤ i ∧ i < 8 * p + 8)) (h2 : i ≠ 48 + p) (h3 : i ≠ 54 + p) : ∀ {l : List (Int × Int)}, GOK 1 m p T l → gnL 1 m p l i = m i
  | [], _ => rfl
  | e :: l, g => by
    have a := g.1.1
    show gn1 1 (gnL 1 m p l) p e.1 e.2 i = _
    rw [gn1q_o (by omega) h2 h3]
    exact gnLq_o hT h1 h2 h3 g.2
theorem gnLq_j {m : Int → Int} {p T : Int} (hp : 0 ≤ p ∧ p < 6) (hT : T ≤ 8) : ∀ {l : List (Int × Int)}, GOK 1 m p T l → gnL 1 m p l (54 + p) = m (54 + p) + tot l
  | [], _ => (Int.add_zero _).symm
  | e :: l, g => by
    have a := g.1.1
    have ih := gnLq_j hp hT g.2
    show gn1 1 (gnL 1 m p l) p e.1 e.2 (54 + p) = m (54 + p) + (tot l + e.2)
    unfold gn1 gnB
    rw [if_neg (by decide), fu_hit, fu_ne (by omega), fu_ne (by omega), ih]
    omega
theorem hvs_I {σ : Mem} (hM : MarkI σ) {o : Option (List Cla)} {T P D B : Int} {m : Int → Int} (hW : RowW T P D B m) (hT : T = σ 64 37) (q : Int) (h0 : 0 ≤ m 114 ∧ m 114 ≤ 60) {p x : Int} (hp : 0 ≤ p ∧ p < 6) (hx : 0 ≤ x ∧ x < σ 64 37) (hc : 0 < m (8 * p + x)) : HvI q m p (σ 64 37) (hvG (wjv σ o m p) (hdm m p (σ 64 37)) (σ 88) (σ 89) (σ 64 40).toNat 8 x (hvA (m (48 + p), []) x (wjv σ o m p (m (48 + p)) x))) := by
  have n1 := hM.2.1.1
  have m5 := hM.2.2.2.2.2.2
  have hct : ∀ i, 0 ≤ i → i < (((σ 64 40).toNat : Nat) : Int) → 0 ≤ σ 89 i ∧ σ 89 i < σ 64 37 := fun i i0 i1 => (m5 i i0 (by omega)).2.2.1
  have hhd : ∀ u, 0 ≤ u → bt (hdm m p (σ 64 37)) u = true → u < σ 64 37 ∧ 0 < m (8 * p + u) := fun u u0 hb => ((hdm_r n1).2.2 u u0).mp hb
  have s := hv_start (o := o) hM hW hT q h0 hp hx hc
  obtain ⟨-, okG⟩ := hv_ok (w := wjv σ o m p) (hd := hdm m p (σ 64 37)) (cf := σ 88) (ct := σ 89) (C := (σ 64 40).toNat) (q := q) h0 hp n1 (fun s x => wjv_r hM o m p s x) hct hhd
  exact (okG 8 x _ s).1
/-- havings of one, by its row -/
abbrev hvR (σ : Mem) (o : Option (List Cla)) (m : Int → Int) (p : Int) : Int → Int → HvS := hvO (wjv σ o m p) (hdm m p (σ 64 37)) (σ 88) (σ 89) (σ 64 40).toNat
abbrev lvR (σ : Mem) (m : Int → Int) (p th : Int) : Int → Int → Bool := fun s t => (bt (hdm m p (σ 64 37)) t && bt th t) && !bt s t
theorem hok {σ : Mem} (hM : MarkI σ) (o : Option (List Cla)) (m : Int → Int) (p th : Int) : HOK (hvR σ o m p) (lvR σ m p th) (σ 64 37) := by
  have n1 := hM.2.1.1
  have m5 := hM.2.2.2.2.2.2
  have hct : ∀ i, 0 ≤ i → i < (((σ 64 40).toNat : Nat) : Int) → 0 ≤ σ 89 i ∧ σ 89 i < σ 64 37 := fun i i0 i1 => (m5 i i0 (by omega)).2.2.1
  have hhd : ∀ u, 0 ≤ u → bt (hdm m p (σ 64 37)) u = true → u < σ 64 37 := fun u u0 hb => (((hdm_r n1).2.2 u u0).mp hb).1
  intro s t hs t0 t1 l
  change ((bt (hdm m p (σ 64 37)) t && bt th t) && !bt s t) = true at l
  rw [Bool.and_eq_true, Bool.not_eq_true'] at l
  obtain ⟨-, a, b, -⟩ := hvO_ok (w := wjv σ o m p) (hd := hdm m p (σ 64 37)) (cf := σ 88) (ct := σ 89) (C := (σ 64 40).toNat) n1 (fun s x => wjv_r hM o m p s x) hct hhd hs (x := t) ⟨by omega, by omega⟩
  exact ⟨l.2, a, (hvO_bc (w := wjv σ o m p) (hd := hdm m p (σ 64 37)) (cf := σ 88) (ct := σ 89) (C := (σ 64 40).toNat) n1 (fun s x => wjv_r hM o m p s x) hct hhd hs (x := t) ⟨by omega, by omega⟩ l.2).1, b⟩
/-- a row on the way -/
def RwO (T P D : Int) (m0 : Int → Int) (p : Int) (m : Int → Int) : Prop := RowW T P D 47952 m ∧ (0 ≤ m 114 ∧ m 114 ≤ 60) ∧ m 72 = m0 72 ∧ m (66 + p) = m0 (66 + p) ∧ m (60 + p) = m0 (60 + p) ∧ ∀ u, 0 ≤ u → u < T → bt (m (48 + p)) u = false → m (8 * p + u) = m0 (8 * p + u)
theorem hvs_O {σ : Mem} (hM : MarkI σ) {o : Option (List Cla)} {T P D : Int} {m0 m : Int → Int} {p x : Int} (hT : T = σ 64 37) (hp : 0 ≤ p ∧ p < 6) (hx : 0 ≤ x ∧ x < σ 64 37) (h : RwO T P D m0 p m) : hvG (wjv σ o m p) (hdm m p (σ 64 37)) (σ 88) (σ 89) (σ 64 40).toNat 8 x (hvA (m (48 + p), []) x (wjv σ o m p (m (48 + p)) x)) = hvR σ o m0 p (m (48 + p)) x := by
  subst hT
  obtain ⟨hW, h114, h72, h66, h60, hc⟩ := h
  have n1 := hM.2.1.1
  have p2 := p2_le n1
  have m5 := hM.2.2.2.2.2.2
  have hct : ∀ i, 0 ≤ i → i < (((σ 64 40).toNat : Nat) : Int) → 0 ≤ σ 89 i ∧ σ 89 i < 8 := fun i i0 i1 => by have := (m5 i i0 (by omega)).2.2.1; omega
  have had := hW.2.1 p hp.1 hp.2
  have had0 := hW.1 (48 + p) (by omega) (by omega)
  rw [wjv_m (σ := σ) (o := o) h72 h66 h60]
  have i8 := ins_lt (m := 8) (s := m (48 + p)) (t := x) ⟨had0, by omega⟩ ⟨by omega, by omega⟩ (by decide)
  refine hvG_hd hct 8 x _ ⟨i8.1, i8.2⟩ (fun u u0 u1 z => ?_)
  change bt (ins (m (48 + p)) x) u = false at z
  rw [bt_ins ⟨by omega, by omega⟩ ⟨by omega, by omega⟩ u0, Bool.or_eq_false_iff] at z
  have a := (hdm_r (m := m) (p := p) n1).2.2 u u0
  have b := (hdm_r (m := m0) (p := p) n1).2.2 u u0
  rw [Bool.eq_iff_iff, a, b]
  constructor
  · intro y; rw [← hc u u0 y.1 z.1]; exact y
  · intro y; rw [hc u u0 y.1 z.1]; exact y
theorem RwO.hv {σ : Mem} (hM : MarkI σ) {o : Option (List Cla)} {T P D : Int} {m0 m : Int → Int} {p x : Int} (hT : T = σ 64 37) (hp : 0 ≤ p ∧ p < 6) (hx : 0 ≤ x ∧ x < σ 64 37) (hc : 0 < m (8 * p + x)) (h : RwO T P D m0 p m) : RwO T P D m0 p (gnL 1 m p (hvs σ o m p x)) ∧ gnL 1 m p (hvs σ o m p x) (48 + p) = (hvR σ o m0 p (m (48 + p)) x).1 ∧ gnL 1 m p (hvs σ o m p x) (54 + p) = m (54 + p) + tot (hvR σ o m0 p (m (48 + p)) x).2 ∧ ∀ i, ¬ (8 * p ≤ i ∧ i < 8 * p + 8) → i ≠ 48 + p → i ≠ 54 + p → gnL 1 m p (hvs σ o m p x) i = m i := by
  have eq := hvs_O (o := o) hM hT hp hx h
  obtain ⟨hW, h114, h72, h66, h60, hcl⟩ := h
  have I := hvs_I (o := o) hM hW hT 1 h114 hp hx hc
  subst hT
  have n1 := hM.2.1.1
  have p2 := p2_le n1
  have m5 := hM.2.2.2.2.2.2
  have hct : ∀ i, 0 ≤ i → i < (((σ 64 40).toNat : Nat) : Int) → 0 ≤ σ 89 i ∧ σ 89 i < 8 := fun i i0 i1 => by have := (m5 i i0 (by omega)).2.2.1; omega
  have had := hW.2.1 p hp.1 hp.2
  have had0 := hW.1 (48 + p) (by omega) (by omega)
  have i8 := ins_lt (m := 8) (s := m (48 + p)) (t := x) ⟨had0, by omega⟩ ⟨by omega, by omega⟩ (by decide)
  obtain ⟨-, sb⟩ := hvG_sub (w := wjv σ o m p) (hd := hdm m p (σ 64 37)) (cf := σ 88) hct 8 x (hvA (m (48 + p), []) x (wjv σ o m p (m (48 + p)) x)) ⟨i8.1, i8.2⟩
  have e2 : hvs σ o m p x = (hvR σ o m0 p (m (48 + p)) x).2 := congrArg Prod.snd eq
  obtain ⟨i1, i2, i3, i4, i5⟩ := I
  rw [eq] at i2 i3 i4 sb
  rw [e2]
  refine ⟨⟨gnL_W hW h114 hp n1 i2, gnL_114 h114 hp n1.2 i2, ?_, ?_, ?_, fun u u0 u1 z => ?_⟩, i3, gnLq_j hp n1.2 i2, fun i z1 z2 z3 => gnLq_o n1.2 z1 z2 z3 i2⟩
  · rw [gnL_o h114 hp n1.2 (by decide) i2]; exact h72
  · rw [gnL_o h114 hp n1.2 (by omega) i2]; exact h66
  · rw [gnL_o h114 hp n1.2 (by omega) i2]; exact h60
  · rw [i3] at z
    rw [i4 u u0 u1 z]
    refine hcl u u0 u1 (Bool.eq_false_iff.mpr (fun y => ?_))
    have := (sb u u0).1 (by
      show bt (ins (m (48 + p)) x) u = true
      rw [bt_ins ⟨by omega, by omega⟩ ⟨by omega, by omega⟩ u0, y]; rfl)
    rw [z] at this
    cases this
theorem RowW.j54 {T P D B : Int} {m : Int → Int} (w : RowW T P D B m) {p : Int} (hp : 0 ≤ p ∧ p < 6) : 0 ≤ m (54 + p) ∧ m (54 + p) ≤ B := by
  have hj := w.1 (54 + p) (by omega) (by omega)
  have s1 := sumI_le (f := fun i => m (54 + i)) hp.1 (n := 6) (fun i h0 h1 => w.1 _ (by omega) (by omega)) (by omega)
  have s2 := sumI_nn (f := m) (n := 48) (fun i h0 h1 => w.1 i h0 (by omega))
  have s3 := w.2.2.1
  have s4 := w.2.2.2.2.2.2.1
  omega
theorem writeOwnR {σ : Mem} (d : Nat) {p L : Int} (hp : 0 ≤ p ∧ p < 6) (hL : 0 ≤ L ∧ L ≤ 8) {Q : RV → Mem → Prop} (h : ∀ τ, Sm σ τ [92] [] → (∀ j, 0 ≤ j → j < 8 → τ 92 (10 * L + j) = σ 81 (8 * p + j)) → τ 92 (10 * L + 8) = σ 81 (48 + p) → τ 92 (10 * L + 9) = σ 81 (54 + p) → (∀ j, j < 10 * L → τ 92 j = σ 92 j) → Q rV τ) : Cl (d + 1) mR_writeOwn [aR 64, aI p, aI L] σ Q := by
  refine bR_writeOwn_in ?_
  refine loop_up (G := fun i => ∀ τ, Sm σ τ [92] [] → (∀ j, 0 ≤ j → j < i → τ 92 (10 * L + j) = σ 81 (8 * p + j)) → (∀ j, j < 10 * L → τ 92 j = σ 92 j) → Ev (d + 1) mR_writeOwn 2 [vR 64, vI p, vI L, vI i] [] τ Q) (hi := 8) _ 0 rfl (by decide) (fun i i0 i1 g => ?_) ?_ σ Sm.refl (fun j a b => absurd b (by omega)) (fun _ _ => rfl)
  · intro τ sm lo hi
    have e81 : τ 81 = σ 81 := sm.1 81 rfl
    refine bR_writeOwn_2 ⟨⟨by omega, by omega⟩, fun z => absurd z (by omega), fun _ => ⟨(by omega), (by omega), (by omega), (by omega), g _ (sm.ups rfl (Or.inl (by decide))) (fun j j0 j1 => ?_) (fun j hj => ?_)⟩⟩
    · by_cases e : j = i
      · rw [e, ups_hit, e81]
      · rw [ups_fn (by omega)]; exact lo j j0 (by omega)
    · rw [ups_fn (by omega)]; exact hi j hj
  · intro τ sm lo hi
    have e81 : τ 81 = σ 81 := sm.1 81 rfl
    refine bR_writeOwn_2 ⟨by decide, fun _ => ⟨(by omega), (by omega), (by omega), (by omega), (by omega), (by omega), (by omega), (by omega), h _ ((sm.ups rfl (Or.inl (by decide))).ups rfl (Or.inl (by decide))) (fun j j0 j1 => ?_) ?_ ?_ (fun j hj => ?_)⟩, fun z => absurd z (by decide)⟩
    · rw [ups_fn (by omega), ups_fn (by omega)]; exact lo j j0 j1
    · rw [ups_fn (by omega), ups_hit, e81]
    · rw [show (10 * L + 9 : Int) = 10 * L + 8 + 1 by omega, ups_hit, e81]
    · rw [ups_fn (by omega), ups_fn (by omega)]; exact hi j hj
theorem readOwnR {σ : Mem} (d : Nat) {p L : Int} (hp : 0 ≤ p ∧ p < 6) (hL : 0 ≤ L ∧ L ≤ 8) {f : Int → Int} (h1 : ∀ j, 0 ≤ j → j < 8 → σ 92 (10 * L + j) = f (8 * p + j)) (h2 : σ 92 (10 * L + 8) = f (48 + p)) (h3 : σ 92 (10 * L + 9) = f (54 + p)) (h4 : ∀ i, ¬ (8 * p ≤ i ∧ i < 8 * p + 8) → i ≠ 48 + p → i ≠ 54 + p → σ 81 i = f i) {Q : RV → Mem → Prop} (h : ∀ τ, Sm σ τ [81] [] → τ 81 = f → Q rV τ) : Cl (d + 1) mR_readOwn [aR 64, aI p, aI L] σ Q := by
  refine bR_readOwn_in ?_
  refine loop_up (G := fun i => ∀ τ, Sm σ τ [81] [] → (∀ j, 0 ≤ j → j < i → τ 81 (8 * p + j) = f (8 * p + j)) → (∀ i, ¬ (8 * p ≤ i ∧ i < 8 * p + 8) → i ≠ 48 + p → i ≠ 54 + p → τ 81 i = f i) → Ev (d + 1) mR_readOwn 2 [vR 64, vI p, vI L, vI i] [] τ Q) (hi := 8) _ 0 rfl (by decide) (fun i i0 i1 g => ?_) ?_ σ Sm.refl (fun j a b => absurd b (by omega)) h4
  · intro τ sm lo hi
    have e92 : τ 92 = σ 92 := sm.1 92 rfl
    refine bR_readOwn_2 ⟨⟨by omega, by omega⟩, fun z => absurd z (by omega), fun _ => ⟨(by omega), (by omega), (by omega), (by omega), g _ (sm.ups rfl (Or.inl (by decide))) (fun j j0 j1 => ?_) (fun j q1 q2 q3 => ?_)⟩⟩
    · by_cases e : j = i
      · rw [e, ups_hit, e92]; exact h1 i i0 i1
      · rw [ups_fn (by omega)]; exact lo j j0 (by omega)
    · rw [ups_fn (by omega)]; exact hi j q1 q2 q3
  · intro τ sm lo hi
    have e92 : τ 92 = σ 92 := sm.1 92 rfl
    refine bR_readOwn_2 ⟨by decide, fun _ => ⟨(by omega), (by omega), (by omega), (by omega), (by omega), (by omega), (by omega), (by omega), h _ ((sm.ups rfl (Or.inl (by decide))).ups rfl (Or.inl (by decide))) ?_⟩, fun z => absurd z (by decide)⟩
    funext i
    by_cases e1 : i = 54 + p
    · rw [e1, ups_hit, e92, ← h3]; congr 1; omega
    · rw [ups_fn e1]
      by_cases e2 : i = 48 + p
      · rw [e2, ups_hit, e92]; exact h2
      · rw [ups_fn e2]
        by_cases e3 : 8 * p ≤ i ∧ i < 8 * p + 8
        · have := lo (i - 8 * p) (by omega) (by omega)
          rw [show 8 * p + (i - 8 * p) = i by omega] at this
          exact this
        · exact hi i e3 e2 e1
/-- the registers of the search -/
abbrev rgO (ω : Mem) : O3 := (ω 64 50, ω 64 49, ω 64 48)
def RK (a : O3) : Prop := rg a.1 ∧ rg a.2.1 ∧ rg a.2.2
theorem RK.up {a c : O3} (ha : RK a) (hc : RK c) : RK (oup a c) := by
  unfold oup; split
  · exact hc
  · exact ha
abbrev trS : List Nat := [64, 73, 74, 81, 92]
abbrev trJ : List Int := [48, 49, 50]
theorem pow_mono {a b : Nat} (h : a ≤ b) : (10 : Int) ^ a ≤ 10 ^ b := by
  have := Nat.pow_le_pow_right (n := 10) (by decide) h
  exact_mod_cast this
theorem opre_r {n : Nat} {L R S : Int} {r : O3} (hr : OR n r) (hn : n ≤ 8) (hL : 0 ≤ L ∧ L ≤ 100) (hR : 0 ≤ R ∧ (R + 1) * 10 ^ n ≤ 100000000) (hS : 0 ≤ S ∧ S ≤ 60000) : RK (opre L R S r) ∧ ¬ (opre L R S r).2.2 = -1 := by
  obtain ⟨a, b, c⟩ := hr
  have q : (10 : Int) ^ r.2.1.toNat ≤ 10 ^ n := pow_mono (by omega)
  have q1 : (R + 1) * 10 ^ r.2.1.toNat ≤ (R + 1) * 10 ^ n := Int.mul_le_mul_of_nonneg_left q (by omega)
  have q2 : (R + 1) * 10 ^ r.2.1.toNat = R * 10 ^ r.2.1.toNat + 10 ^ r.2.1.toNat := by rw [Int.add_mul, Int.one_mul]
  have q3 : 0 ≤ R * 10 ^ r.2.1.toNat := Int.mul_nonneg hR.1 (by omega)
  refine ⟨⟨⟨?_, ?_⟩, ⟨?_, ?_⟩, ?_, ?_⟩, ?_⟩
  · show _ ≤ S + r.1; omega
  · show S + r.1 ≤ _; omega
  · show _ ≤ L + r.2.1; omega
  · show L + r.2.1 ≤ _; omega
  · show _ ≤ R * 10 ^ r.2.1.toNat + r.2.2; omega
  · show R * 10 ^ r.2.1.toNat + r.2.2 ≤ _; omega
  · intro z
    change R * 10 ^ r.2.1.toNat + r.2.2 = -1 at z
    omega
theorem tryO {σ : Mem} (hM : MarkI σ) {o : Option (List Cla)} (hH : Held σ o) (hq : σ 64 43 = 1) {P D : Int} (hP : P = σ 64 38) (hD : D ≤ 4000) {m0 : Int → Int} {p th : Int} (hp : 0 ≤ p ∧ p < σ 64 38) (hth : st8 th) : ∀ (n d : Nat) (L R : Int) (ω : Mem) (Q : RV → Mem → Prop), (0 ≤ L ∧ L + (n : Int) = 8) → (8 ≤ bcF (ω 81 (48 + p)) + (n : Int)) → (0 ≤ R ∧ (R + 1) * 10 ^ n ≤ 100000000) → Sm σ ω trS trJ → RwO (σ 64 37) P D m0 p (ω 81) → RK (rgO ω) →
    (∀ ω', Sm σ ω' trS trJ → ω' 81 = ω 81 → (∀ j, j < 10 * L → ω' 92 j = ω 92 j) → rgO ω' = oup (rgO ω) (opre L R (ω 81 (54 + p)) (ordF (hvR σ o m0 p) (lvR σ m0 p th) (σ 64 37).toNat n (ω 81 (48 + p)))) → Q rV ω') → Cl (d + n + 22) mR_tryOrders [aR 64, aI p, aI th, aI L, aI R] ω Q := by
  have n1 := hM.2.1.1
  have n2 := hM.2.1.2.1
  have p2 := p2_le n1
  have ok := hok hM o m0 p th
  have s256 : (2 : Int) ^ 8 = 256 := by decide
  -- one node, the next one given
  have node : ∀ (n d : Nat), (∀ k, n = k + 1 → ∀ (L R : Int) (ω : Mem) (Q : RV → Mem → Prop), (0 ≤ L ∧ L + (k : Int) = 8) → (8 ≤ bcF (ω 81 (48 + p)) + (k : Int)) → (0 ≤ R ∧ (R + 1) * 10 ^ k ≤ 100000000) → Sm σ ω trS trJ → RwO (σ 64 37) P D m0 p (ω 81) → RK (rgO ω) →
    (∀ ω', Sm σ ω' trS trJ → ω' 81 = ω 81 → (∀ j, j < 10 * L → ω' 92 j = ω 92 j) → rgO ω' = oup (rgO ω) (opre L R (ω 81 (54 + p)) (ordF (hvR σ o m0 p) (lvR σ m0 p th) (σ 64 37).toNat k (ω 81 (48 + p)))) → Q rV ω') → Cl (d + k + 22) mR_tryOrders [aR 64, aI p, aI th, aI L, aI R] ω Q) → ∀ (L R : Int) (ω : Mem) (Q : RV → Mem → Prop), (0 ≤ L ∧ L + (n : Int) = 8) → (8 ≤ bcF (ω 81 (48 + p)) + (n : Int)) → (0 ≤ R ∧ (R + 1) * 10 ^ n ≤ 100000000) → Sm σ ω trS trJ → RwO (σ 64 37) P D m0 p (ω 81) → RK (rgO ω) →
    (∀ ω', Sm σ ω' trS trJ → ω' 81 = ω 81 → (∀ j, j < 10 * L → ω' 92 j = ω 92 j) → rgO ω' = oup (rgO ω) (opre L R (ω 81 (54 + p)) (ordF (hvR σ o m0 p) (lvR σ m0 p th) (σ 64 37).toNat n (ω 81 (48 + p)))) → Q rV ω') → Cl (d + n + 22) mR_tryOrders [aR 64, aI p, aI th, aI L, aI R] ω Q := by
    intro n d ih L R ω Q hL hb hR sm rw0 rk h
    have w := rw0.1
    have had := w.2.1 p hp.1 (by omega)
    have had0 := w.1 (48 + p) (by omega) (by omega)
    have j54 := w.j54 (p := p) (by omega)
    have vs : 0 ≤ ω 81 (48 + p) ∧ ω 81 (48 + p) < 2 ^ (σ 64 37).toNat := ⟨had0, had⟩
    -- what the next sets give
    have pred : ∃ f : Int → O3, ordF (hvR σ o m0 p) (lvR σ m0 p th) (σ 64 37).toNat n (ω 81 (48 + p)) = ofin (oscn (hvR σ o m0 p (ω 81 (48 + p))) f (lvR σ m0 p th (ω 81 (48 + p))) (σ 64 37).toNat) ∧ (∀ s, (0 ≤ s ∧ s < 2 ^ (σ 64 37).toNat) → OR (n - 1) (f s)) ∧ ∀ k, n = k + 1 → f = ordF (hvR σ o m0 p) (lvR σ m0 p th) (σ 64 37).toNat k := by
      cases n with
      | zero =>
        refine ⟨ordF (hvR σ o m0 p) (lvR σ m0 p th) (σ 64 37).toNat 0, ?_, fun s hs => OR0 0, fun k e => by omega⟩
        exact (ordF_fuel n1 ok 0 _ vs hb).symm
      | succ k => exact ⟨ordF (hvR σ o m0 p) (lvR σ m0 p th) (σ 64 37).toNat k, rfl, fun s hs => ordF_r n1 ok k s hs, fun k' e => by rw [show k' = k by omega]⟩
    obtain ⟨f, ef, fr, fk⟩ := pred
    rw [ef] at h
    have sr := fun k (hk : k ≤ (σ 64 37).toNat) => oscn_r (H := hvR σ o m0 p (ω 81 (48 + p))) (f := f) (L := lvR σ m0 p th (ω 81 (48 + p))) (n := n - 1) (T := (σ 64 37).toNat) (by omega) (fun t t0 t1 l => by
      obtain ⟨-, h2, -, h4⟩ := ok _ t vs t0 (by omega) l
      exact ⟨fr _ h2, h4⟩) k hk
    generalize hsc : oscn (hvR σ o m0 p (ω 81 (48 + p))) f (lvR σ m0 p th (ω 81 (48 + p))) = sc at *
    refine bR_tryOrders_in ?_
    rw [show d + n + 21 = d + n + 20 + 1 from rfl]
    refine writeOwnR (d + n + 20) (p := p) (by omega) (L := L) (by omega) (fun ω1 s1 v1 v2 v3 v4 => ?_)
    have sm1 : Sm σ ω1 trS trJ := sm.trans (s1.mono (by decide) (by decide))
    have a81 : ω1 81 = ω 81 := s1.1 81 rfl
    have a64 : ω1 64 = ω 64 := s1.1 64 rfl
    have main : ∀ (k : Nat) (t : Int) (ω' : Mem), 0 ≤ t → t + (k : Int) = σ 64 37 → Sm σ ω' trS trJ → ω' 81 = ω 81 → (∀ j, j < 10 * L + 10 → ω' 92 j = ω1 92 j) → RK (rgO ω') → rgO ω' = oacs (rgO ω) L R (ω 81 (54 + p)) (sc t.toNat) → Ev (d + n + 22) mR_tryOrders 12 [vR 64, vI p, vI th, vI L, vI R, vI (if (sc t.toNat).1 = -1 then 0 else 1), vI t] [] ω' Q := by
      intro k
      induction k with
      | zero =>
        intro t ω' t0 t1 sm' e81 e92 rk' hac
        have e37 : ω' 64 37 = σ 64 37 := sm'.2 37 rfl
        have et : t = σ 64 37 := by omega
        subst et
        have srT := sr (σ 64 37).toNat (Nat.le_refl _)
        -- the end of a node
        have fin : ∀ s0 : Int, (s0 = 0 ∨ s0 = 1) → (s0 = 1 ↔ ω' 64 50 < ω 81 (54 + p) ∨ (ω 81 (54 + p) = ω' 64 50 ∧ L < ω' 64 49)) → Ev (d + n + 22) mR_tryOrders 135 [vR 64, vI p, vI th, vI L, vI R, vI (if (sc (σ 64 37).toNat).1 = -1 then 0 else 1), vI (σ 64 37)] [aI s0] ω' Q := by
          intro s0 hs0 hs1
          refine bR_tryOrders_135 ⟨by split <;> decide, fun z => ?_, fun z => ?_⟩
          · have nz : ¬ (sc (σ 64 37).toNat).1 = -1 := fun y => z (if_pos y)
            refine h ω' sm' e81 (fun j hj => by rw [e92 j (by omega), v4 j hj]) ?_
            rw [hac]
            unfold oacs ofin
            rw [if_neg nz, if_neg nz]
          · have nz : (sc (σ 64 37).toNat).1 = -1 := by
              by_cases y : (sc (σ 64 37).toNat).1 = -1
              · exact y
              · rw [if_neg y] at z; cases z
            have hac' : rgO ω' = rgO ω := by rw [hac]; unfold oacs; rw [if_pos nz]
            have nd : opre L R (ω 81 (54 + p)) (ofin (sc (σ 64 37).toNat)) = (ω 81 (54 + p), L, R) := by
              unfold ofin
              rw [if_pos nz]
              show (ω 81 (54 + p) + 0, L + 0, R * 10 ^ 0 + 0) = _
              rw [Int.add_zero, Int.add_zero, Int.add_zero, show R * 10 ^ 0 = R from Int.mul_one R]
            rw [nd, ← hac'] at h
            have set : (ω' 64 48 = -1 ∨ s0 = 1) → Q rV (ups (ups (ups ω' 64 48 R) 64 49 L) 64 50 (ω' 81 (54 + p))) := by
              intro y
              refine h _ (((sm'.ups rfl (Or.inr rfl)).ups rfl (Or.inr rfl)).ups rfl (Or.inr rfl)) (by rw [ups_ne (by decide), ups_ne (by decide), ups_ne (by decide)]; exact e81) (fun j hj => by rw [ups_ne (by decide), ups_ne (by decide), ups_ne (by decide), e92 j (by omega), v4 j hj]) ?_
              unfold rgO oup
              rw [if_pos (by rcases y with y | y; exact Or.inl y; exact Or.inr (hs1.mp y)), ups_hit, ups_fn (by decide), ups_hit, ups_fn (by decide), ups_fn (by decide), ups_hit, e81]
            have keep : ¬ (ω' 64 48 = -1 ∨ s0 = 1) → Q rV ω' := by
              intro y
              refine h ω' sm' e81 (fun j hj => by rw [e92 j (by omega), v4 j hj]) ?_
              unfold oup
              rw [if_neg (fun z => y (by rcases z with z | z; exact Or.inl z; exact Or.inr (hs1.mpr z)))]
            exact ⟨rk'.2.2, fun y => ⟨(by omega), (by omega), set (Or.inl y)⟩, fun y => ⟨by rcases hs0 with e | e <;> rw [e] <;> decide, fun y2 => keep (fun q => by rcases q with q | q; exact y q; omega), fun y2 => ⟨(by omega), (by omega), set (Or.inr (by omega))⟩⟩⟩
        refine bR_tryOrders_12 ⟨⟨by omega, by omega⟩, by rw [e37]; exact ⟨by omega, by omega⟩, fun _ => ⟨(by omega), (by omega), by rw [e81]; exact ⟨by omega, by omega⟩, rk'.1, fun y => fin 1 (Or.inr rfl) ⟨fun _ => Or.inl (by rw [e81] at y; exact y), fun _ => rfl⟩, fun y => ⟨fun y2 => fin 0 (Or.inl rfl) ⟨fun z => absurd z (by decide), fun z => by rw [e81] at y y2; omega⟩, fun y2 => ⟨⟨by omega, by omega⟩, rk'.2.1, fun y3 => fin 0 (Or.inl rfl) ⟨fun z => absurd z (by decide), fun z => by rw [e81] at y y2; omega⟩, fun y3 => fin 1 (Or.inr rfl) ⟨fun _ => Or.inr ⟨by rw [e81] at y2; exact y2, y3⟩, fun _ => rfl⟩⟩⟩⟩, fun z => absurd z (by rw [e37]; omega)⟩
      | succ k ik =>
        intro t ω' t0 t1 sm' e81 e92 rk' hac
        have e37 : ω' 64 37 = σ 64 37 := sm'.2 37 rfl
        have e38 : ω' 64 38 = σ 64 38 := sm'.2 38 rfl
        have scS := oscn_S (H := hvR σ o m0 p (ω 81 (48 + p))) (f := f) (L := lvR σ m0 p th (ω 81 (48 + p))) t0
        rw [hsc] at scS
        have f48 := w.f48 (Int.le_refl _) (i := 8 * p + t) (by omega) (by omega)
        have no : lvR σ m0 p th (ω 81 (48 + p)) t = false → Ev (d + n + 22) mR_tryOrders 12 [vR 64, vI p, vI th, vI L, vI R, vI (if (sc t.toNat).1 = -1 then 0 else 1), vI (t + 1)] [] ω' Q := by
          intro z
          have e : sc (t + 1).toNat = sc t.toNat := by rw [scS, if_neg (fun y => by rw [z] at y; exact absurd y.1 (by decide))]
          have := ik (t + 1) ω' (by omega) (by omega) sm' e81 e92 rk' (by rw [e]; exact hac)
          rw [e] at this
          exact this
        have hdr := (hdm_r (m := m0) (p := p) n1).2.2 t t0
        refine bR_tryOrders_12 ⟨⟨by omega, by omega⟩, by rw [e37]; exact ⟨by omega, by omega⟩, fun z => absurd z (by rw [e37]; omega), fun _ => ⟨fun y => ⟨(by omega), (by omega), by rw [e81]; exact ⟨by omega, by omega⟩, fun y2 => ?_, fun y2 => ⟨hp.1, (by omega), fun y3 => ?_, fun y3 => ?_⟩⟩, fun y => no ?_⟩⟩
        · rw [e81] at y2
          refine no ?_
          cases c : bt (ω 81 (48 + p)) t
          · have : bt (hdm m0 p (σ 64 37)) t = false := Bool.eq_false_iff.mpr (fun q => by
              have := hdr.mp q
              rw [← rw0.2.2.2.2.2 t t0 (by omega) c] at this
              omega)
            show ((bt (hdm m0 p (σ 64 37)) t && bt th t) && !bt (ω 81 (48 + p)) t) = false
            rw [this]; rfl
          · show ((bt (hdm m0 p (σ 64 37)) t && bt th t) && !bt (ω 81 (48 + p)) t) = false
            rw [c]; exact Bool.and_false _
        · rw [e81] at y3
          refine no ?_
          have c := (hb_bt (s := ω 81 (48 + p)) (t := t) ⟨by omega, by omega⟩ ⟨by omega, by omega⟩).mp y3
          show ((bt (hdm m0 p (σ 64 37)) t && bt th t) && !bt (ω 81 (48 + p)) t) = false
          rw [c]; exact Bool.and_false _
        · rw [e81] at y2 y3
          have c : bt (ω 81 (48 + p)) t = false := Bool.eq_false_iff.mpr (fun q => y3 ((hb_bt (s := ω 81 (48 + p)) (t := t) ⟨by omega, by omega⟩ ⟨by omega, by omega⟩).mpr q))
          have c2 := (hb_bt (s := th) (t := t) ⟨by omega, by omega⟩ ⟨by omega, by omega⟩).mp y
          have c3 := hdr.mpr ⟨(by omega), by rw [← rw0.2.2.2.2.2 t t0 (by omega) c]; exact y2⟩
          have l : lvR σ m0 p th (ω 81 (48 + p)) t = true := by
            show ((bt (hdm m0 p (σ 64 37)) t && bt th t) && !bt (ω 81 (48 + p)) t) = true
            rw [c, c2, c3]; rfl
          obtain ⟨-, k2, k3, k4⟩ := ok _ t vs t0 (by omega) l
          -- there is room
          have hb8 := (bcF_r (s := (hvR σ o m0 p (ω 81 (48 + p)) t).1) ⟨by omega, by omega⟩).2
          obtain ⟨n', rfl⟩ : ∃ n', n = n' + 1 := ⟨n - 1, by
            have : n ≠ 0 := fun z => by
              subst z
              have := bcF_ins (s := ω 81 (48 + p)) (t := t) ⟨by omega, by omega⟩ ⟨by omega, by omega⟩ c
              have i8 := ins_lt (m := 8) (s := ω 81 (48 + p)) (t := t) ⟨by omega, by omega⟩ ⟨by omega, by omega⟩ (by decide)
              have := (bcF_r (s := ins (ω 81 (48 + p)) t) ⟨i8.1, i8.2⟩).2
              omega
            omega⟩
          have fe := fk n' rfl
          have e43 : ω' 64 43 = 1 := by rw [sm'.2 43 rfl]; exact hq
          have sk : SmMk σ ω' := SmMk.of sm' (by decide) (by decide)
          rw [show d + (n' + 1) + 21 = d + n' + 1 + 21 by omega]
          refine haveNowR (hM.sm sm' (by decide) (by decide)) (hH.sm sm' (by decide) rfl) (T := σ 64 37) (P := P) (D := D) (B := 47952) (by rw [e81]; exact w) (Int.le_refl _) e37.symm hD (by rw [e81]; exact rw0.2.1) (by rw [e43]; decide) (d + n' + 1) (by rw [e38]; exact hp) (by rw [e37]; exact ⟨by omega, by omega⟩) (by rw [e81]; exact y2) (fun ω2 s2 e2 => ?_)
          rw [e43, e81, hvs_cg sk] at e2
          rw [e81, hvs_cg sk]
          obtain ⟨r1, r2, r3, r4⟩ := RwO.hv (o := o) hM rfl (p := p) (by omega) (x := t) ⟨by omega, by omega⟩ y2 rw0
          rw [← e2] at r1 r2 r3 r4
          have b1 : 10 * R + t + 1 ≤ 10 * R + 10 := by omega
          have b2 : (10 * R + t + 1) * 10 ^ n' ≤ (10 * R + 10) * 10 ^ n' := Int.mul_le_mul_of_nonneg_right b1 (Int.le_of_lt (Int.pow_pos (by decide)))
          have b3 : (R + 1) * 10 ^ (n' + 1) = (10 * R + 10) * 10 ^ n' := by rw [Int.pow_succ, Int.mul_comm (10 ^ n') 10, ← Int.mul_assoc, show (R + 1) * 10 = 10 * R + 10 by omega]
          have sm2 : Sm σ ω2 trS trJ := sm'.trans (s2.mono (by decide) (by decide))
          have g64 : ω2 64 = ω' 64 := s2.1 64 rfl
          have g92 : ω2 92 = ω' 92 := s2.1 92 rfl
          have gr : rgO ω2 = rgO ω' := by unfold rgO; rw [g64]
          rw [show d + n' + 1 + 21 = d + n' + 22 by omega]
          refine ih n' rfl (L + 1) (10 * R + t) ω2 _ (by omega) (by rw [r2]; omega) ⟨by omega, by omega⟩ sm2 r1 (by rw [gr]; exact rk') (fun ω3 s3 f1 f2 f3 => ?_)
          rw [r2, r3, gr, ← fe] at f3
          have fr3 := fr _ k2
          rw [opre_cd fr3.2.1.1] at f3
          rw [show d + n' + 22 = d + n' + 21 + 1 from rfl]
          refine readOwnR (d + n' + 21) (p := p) (by omega) (L := L) (by omega) (f := ω 81) (fun j j0 j1 => ?_) ?_ ?_ (fun i q1 q2 q3 => ?_) (fun ω4 s4 g4 => ?_)
          · rw [f2 _ (by omega), g92, e92 _ (by omega)]; exact v1 j j0 j1
          · rw [f2 _ (by omega), g92, e92 _ (by omega)]; exact v2
          · rw [f2 _ (by omega), g92, e92 _ (by omega)]; exact v3
          · rw [f1]; exact r4 i q1 q2 q3
          have h64 : ω4 64 = ω3 64 := s4.1 64 rfl
          have hr : rgO ω4 = rgO ω3 := by unfold rgO; rw [h64]
          have cd := ocd_r (H := hvR σ o m0 p (ω 81 (48 + p)) t) (r := f (hvR σ o m0 p (ω 81 (48 + p)) t).1) (t := t) fr3 k4 ⟨by omega, by omega⟩
          have cdr := opre_r (L := L) (R := R) (S := ω 81 (54 + p)) cd.1 (by omega) (by omega) (by rw [show n' + 1 - 1 + 1 = n' + 1 by omega]; exact hR) ⟨by omega, by omega⟩
          have srt := sr t.toNat (by omega)
          have acc := oacc_step (a := rgO ω) (c := ocd (hvR σ o m0 p (ω 81 (48 + p)) t) (f (hvR σ o m0 p (ω 81 (48 + p)) t).1) t) (s := sc t.toNat) (L := L) (R := R) (S := ω 81 (54 + p)) hR.1 (by
            rcases srt with e | e
            · exact Or.inl e.1
            · exact Or.inr ⟨e.1.1.1, e.1.2.2.1⟩) ⟨cd.1.1.1, cd.1.2.2.1⟩
          have un : sc (t + 1).toNat = if obt (sc t.toNat) (ocd (hvR σ o m0 p (ω 81 (48 + p)) t) (f (hvR σ o m0 p (ω 81 (48 + p)) t).1) t) then ocd (hvR σ o m0 p (ω 81 (48 + p)) t) (f (hvR σ o m0 p (ω 81 (48 + p)) t).1) t else sc t.toNat := by
            rw [scS]
            by_cases q : obt (sc t.toNat) (ocd (hvR σ o m0 p (ω 81 (48 + p)) t) (f (hvR σ o m0 p (ω 81 (48 + p)) t).1) t)
            · rw [if_pos q, if_pos ⟨l, q⟩]
            · rw [if_neg q, if_neg (fun z => q z.2)]
          have hac4 : rgO ω4 = oacs (rgO ω) L R (ω 81 (54 + p)) (sc (t + 1).toNat) := by
            rw [hr, f3, hac, un, acc]
          have ne : ¬ (sc (t + 1).toNat).1 = -1 := by
            have s' := sr (t + 1).toNat (by omega)
            rcases s' with e | e
            · have := e.2 t t0 (by omega)
              rw [l] at this; cases this
            · have := e.1.1.1; omega
          have nx := ik (t + 1) ω4 (by omega) (by omega) (s3.trans (s4.mono (by decide) (by decide))) g4 (fun j hj => by rw [s4.1 92 rfl, f2 j (by omega), g92]; exact e92 j hj) (by rw [hr, f3]; exact rk'.up cdr.1) hac4
          rw [if_neg ne] at nx
          exact nx
        · have c2 : bt th t = false := Bool.eq_false_iff.mpr (fun q => y ((hb_bt (s := th) (t := t) ⟨by omega, by omega⟩ ⟨by omega, by omega⟩).mpr q))
          show ((bt (hdm m0 p (σ 64 37)) t && bt th t) && !bt (ω 81 (48 + p)) t) = false
          rw [c2, Bool.and_false, Bool.false_and]
    have r0 : rgO ω1 = rgO ω := by unfold rgO; rw [a64]
    have st := main (σ 64 37).toNat 0 ω1 (by decide) (by omega) sm1 a81 (fun _ _ => rfl) (by rw [r0]; exact rk) (by
      rw [r0, ← hsc]
      show _ = oacs _ _ _ _ (-1, 0, 0)
      unfold oacs; rw [if_pos rfl])
    have z0 : (if (sc (0 : Int).toNat).1 = -1 then (0 : Int) else 1) = 0 := by
      rw [← hsc]; exact if_pos rfl
    rw [z0] at st
    exact st
  intro n
  induction n with
  | zero => exact fun d => node 0 d (fun k e => by omega)
  | succ n ih =>
    intro d L R ω Q
    exact node (n + 1) d (fun k e => by rw [show k = n by omega]; exact ih d) L R ω Q
