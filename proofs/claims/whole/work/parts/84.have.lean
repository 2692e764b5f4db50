/-! ===== HAVING, AND WHAT COMES ALONG ===== -/
abbrev HvS := Int × List (Int × Int)
def hvA (s : HvS) (x g : Int) : HvS := (ins s.1 x, (x, g) :: s.2)
def hvF (w : Int → Int → Int) (hd : Int) (cf ct : Int → Int) (rec : Int → HvS → HvS) (x : Int) : Nat → Int → HvS → HvS
  | 0, _, s => s
  | n + 1, i, s => hvF w hd cf ct rec x n (i + 1) (if cf i = x ∧ bt hd (ct i) = true ∧ bt s.1 (ct i) = false then rec (ct i) (hvA s (ct i) (Int.tdiv (w s.1 (ct i)) 2)) else s)
def hvG (w : Int → Int → Int) (hd : Int) (cf ct : Int → Int) (C : Nat) : Nat → Int → HvS → HvS
  | 0, _, s => s
  | f + 1, x, s => hvF w hd cf ct (hvG w hd cf ct C f) x C 0 s
/-- the row after so many gains, the newest first -/
def gnL (q : Int) (m : Int → Int) (p : Int) : List (Int × Int) → Int → Int
  | [] => m
  | e :: l => gn1 q (gnL q m p l) p e.1 e.2
def tot : List (Int × Int) → Int
  | [] => 0
  | e :: l => tot l + e.2
def GOK (q : Int) (m : Int → Int) (p T : Int) : List (Int × Int) → Prop
  | [] => True
  | e :: l => ((0 ≤ e.1 ∧ e.1 < T) ∧ (0 ≤ e.2 ∧ e.2 ≤ 999) ∧ 0 < gnL q m p l (8 * p + e.1)) ∧ GOK q m p T l
theorem tot_r {q : Int} {m : Int → Int} {p T : Int} : ∀ {l : List (Int × Int)}, GOK q m p T l → 0 ≤ tot l ∧ tot l ≤ 999 * (l.length : Int)
  | [], _ => by show (0 : Int) ≤ 0 ∧ (0 : Int) ≤ 999 * ((0 : Nat) : Int); decide
  | e :: l, h => by
    have ih := tot_r h.2
    have := h.1.2.1
    show 0 ≤ tot l + e.2 ∧ tot l + e.2 ≤ 999 * (((e :: l).length : Nat) : Int)
    rw [List.length_cons]
    omega
theorem gn1_114 {q : Int} {m : Int → Int} {p x g : Int} (h0 : 0 ≤ m 114 ∧ m 114 ≤ 60) (hp : 0 ≤ p ∧ p < 6) (hx : 0 ≤ x ∧ x < 8) : 0 ≤ gn1 q m p x g 114 ∧ gn1 q m p x g 114 ≤ 60 := by
  have e : gnB m (8 * p + x) (48 + p) (54 + p) x g 114 = m 114 := gnB_o (by omega) (by omega) (by omega)
  unfold gn1; split
  · unfold ntM addE; split
    · rw [fu_hit, fu_hit]; decide
    · rw [fu_hit]; omega
  · omega
theorem gn1_had {q : Int} {m : Int → Int} {p x g : Int} (h0 : 0 ≤ m 114) (hp : 0 ≤ p ∧ p < 6) (hx : 0 ≤ x ∧ x < 8) : gn1 q m p x g (48 + p) = ins (m (48 + p)) x := by
  have e : gnB m (8 * p + x) (48 + p) (54 + p) x g (48 + p) = ins (m (48 + p)) x := by unfold gnB; rw [fu_ne (by omega), fu_hit, fu_ne (by omega)]
  have e2 : gnB m (8 * p + x) (48 + p) (54 + p) x g 114 = m 114 := gnB_o (by omega) (by omega) (by omega)
  unfold gn1; split
  · rw [ntM_o (by rw [e2]; exact h0) (by omega), e]
  · exact e
theorem gnL_114 {q : Int} {m : Int → Int} {p T : Int} (h0 : 0 ≤ m 114 ∧ m 114 ≤ 60) (hp : 0 ≤ p ∧ p < 6) (hT : T ≤ 8) : ∀ {l : List (Int × Int)}, GOK q m p T l → 0 ≤ gnL q m p l 114 ∧ gnL q m p l 114 ≤ 60
  | [], _ => h0
  | e :: l, h => gn1_114 (gnL_114 h0 hp hT h.2) hp ⟨h.1.1.1, by have := h.1.1.2; omega⟩
theorem gnL_o {q : Int} {m : Int → Int} {p T i : Int} (h0 : 0 ≤ m 114 ∧ m 114 ≤ 60) (hp : 0 ≤ p ∧ p < 6) (hT : T ≤ 8) (hi : 60 ≤ i ∧ i < 114) : ∀ {l : List (Int × Int)}, GOK q m p T l → gnL q m p l i = m i
  | [], _ => rfl
  | e :: l, h => by
    have a := gnL_114 h0 hp hT h.2
    have b := h.1.1
    show gn1 q (gnL q m p l) p e.1 e.2 i = _
    rw [gn1_o a.1 hp ⟨by omega, by omega⟩ (by omega) (by omega) (by omega) (by omega)]
    exact gnL_o h0 hp hT hi h.2
theorem gnL_W {q : Int} {m : Int → Int} {p T P D B : Int} (hW : RowW T P D B m) (h0 : 0 ≤ m 114 ∧ m 114 ≤ 60) (hp : 0 ≤ p ∧ p < 6) (hT : 0 ≤ T ∧ T ≤ 8) : ∀ {l : List (Int × Int)}, GOK q m p T l → RowW T P D B (gnL q m p l)
  | [], _ => hW
  | e :: l, h => (gnL_W hW h0 hp hT h.2).gn q hT (gnL_114 h0 hp hT.2 h.2).1 hp h.1.1 h.1.2.1 h.1.2.2
/-- the sums so far are in order -/
def HvI (q : Int) (m : Int → Int) (p T : Int) (s : HvS) : Prop :=
  (0 ≤ s.1 ∧ s.1 < 2 ^ T.toNat) ∧ GOK q m p T s.2 ∧ gnL q m p s.2 (48 + p) = s.1 ∧ (∀ u, 0 ≤ u → u < T → bt s.1 u = false → gnL q m p s.2 (8 * p + u) = m (8 * p + u)) ∧ (s.2.length : Int) ≤ bcF s.1
theorem HvI.add {q : Int} {m : Int → Int} {p T x g : Int} {s : HvS} (h : HvI q m p T s) (h0 : 0 ≤ m 114 ∧ m 114 ≤ 60) (hp : 0 ≤ p ∧ p < 6) (hT : 0 ≤ T ∧ T ≤ 8) (hx : 0 ≤ x ∧ x < T) (hg : 0 ≤ g ∧ g ≤ 999) (hc : 0 < gnL q m p s.2 (8 * p + x)) (hl : (s.2.length : Int) + 1 ≤ bcF (ins s.1 x)) : HvI q m p T (hvA s x g) := by
  obtain ⟨a, b, c, d, e⟩ := h
  have p2 := p2_le hT
  have n114 := gnL_114 h0 hp hT.2 b
  refine ⟨ins_lt a ⟨by omega, by omega⟩ (by omega), ⟨⟨hx, hg, hc⟩, b⟩, ?_, fun u u0 u1 hu => ?_, ?_⟩
  · show gn1 q (gnL q m p s.2) p x g (48 + p) = ins s.1 x
    rw [gn1_had n114.1 hp ⟨by omega, by omega⟩, c]
  · have hu2 : bt (ins s.1 x) u = false := hu
    rw [bt_ins ⟨by omega, by omega⟩ ⟨by omega, by omega⟩ u0, Bool.or_eq_false_iff] at hu2
    have ne : u ≠ x := fun z => by rw [z, decide_eq_true rfl] at hu2; cases hu2.2
    show gn1 q (gnL q m p s.2) p x g (8 * p + u) = _
    rw [gn1_o n114.1 hp ⟨by omega, by omega⟩ (by omega) (by omega) (by omega) (by omega)]
    exact d u u0 u1 hu2.1
  · show (((x, g) :: s.2).length : Int) ≤ bcF (ins s.1 x)
    rw [List.length_cons]; omega
/-- who may still come -/
def ptt (ct : Int → Int) (C : Nat) (s : Int) : Int := sumI (fun k => if bt s (ct k) = true then 0 else 1) C
theorem ptt_ins {ct : Int → Int} {C : Nat} {s : Int} (hs : st8 s) (hct : ∀ i, 0 ≤ i → i < (C : Int) → 0 ≤ ct i ∧ ct i < 8) {i : Int} (i0 : 0 ≤ i) (i1 : i < (C : Int)) (hb : bt s (ct i) = false) : ptt ct C (ins s (ct i)) + 1 ≤ ptt ct C s := by
  have ci := hct i i0 i1
  have bi : ∀ k, 0 ≤ k → k < (C : Int) → bt (ins s (ct i)) (ct k) = (bt s (ct k) || decide (ct k = ct i)) := fun k k0 k1 => bt_ins ⟨by omega, by omega⟩ ⟨by omega, by omega⟩ (hct k k0 k1).1
  have nn : ∀ k, 0 ≤ k → k < (C : Int) → 0 ≤ (if bt s (ct k) = true then (0 : Int) else 1) - (if bt (ins s (ct i)) (ct k) = true then (0 : Int) else 1) := by
    intro k k0 k1
    rw [bi k k0 k1]
    by_cases c : bt s (ct k) = true
    · rw [if_pos c, c, Bool.true_or, if_pos rfl]; decide
    · rw [if_neg c]; split <;> decide
  have a := sumI_le (f := fun k => (if bt s (ct k) = true then (0 : Int) else 1) - (if bt (ins s (ct i)) (ct k) = true then (0 : Int) else 1)) i0 nn i1
  have b := sumI_add (f := fun k => if bt (ins s (ct i)) (ct k) = true then (0 : Int) else 1) (g := fun k => (if bt s (ct k) = true then (0 : Int) else 1) - (if bt (ins s (ct i)) (ct k) = true then (0 : Int) else 1)) C
  have c : sumI (fun k => (if bt (ins s (ct i)) (ct k) = true then (0 : Int) else 1) + ((if bt s (ct k) = true then (0 : Int) else 1) - (if bt (ins s (ct i)) (ct k) = true then (0 : Int) else 1))) C = ptt ct C s := sumI_congr (fun k _ _ => by generalize (if bt (ins s (ct i)) (ct k) = true then (0 : Int) else 1) = a; generalize hb2 : (if bt s (ct k) = true then (0 : Int) else 1) = b; omega)
  have e : (if bt s (ct i) = true then (0 : Int) else 1) - (if bt (ins s (ct i)) (ct i) = true then (0 : Int) else 1) = 1 := by
    rw [bi i i0 i1, hb, decide_eq_true rfl, Bool.or_true, if_pos rfl, if_neg (by decide)]; rfl
  rw [e] at a
  show sumI _ C + 1 ≤ _
  rw [← c]
  rw [b]
  omega
theorem ptt_nn (ct : Int → Int) (C : Nat) (s : Int) : 0 ≤ ptt ct C s := sumI_nn (fun k _ _ => by split <;> decide)
/-- what having keeps -/
theorem hv_ok {w : Int → Int → Int} {hd : Int} {cf ct : Int → Int} {C : Nat} {q : Int} {m : Int → Int} {p T : Int} (h0 : 0 ≤ m 114 ∧ m 114 ≤ 60) (hp : 0 ≤ p ∧ p < 6) (hT : 0 ≤ T ∧ T ≤ 8) (hw : ∀ s x, 0 ≤ w s x ∧ w s x ≤ 999) (hct : ∀ i, 0 ≤ i → i < (C : Int) → 0 ≤ ct i ∧ ct i < T) (hhd : ∀ u, 0 ≤ u → bt hd u = true → u < T ∧ 0 < m (8 * p + u)) :
    (∀ (s : HvS) (i : Int), 0 ≤ i → i < (C : Int) → HvI q m p T s → bt hd (ct i) = true → bt s.1 (ct i) = false → HvI q m p T (hvA s (ct i) (Int.tdiv (w s.1 (ct i)) 2)) ∧ bcF (hvA s (ct i) (Int.tdiv (w s.1 (ct i)) 2)).1 = bcF s.1 + 1 ∧ ptt ct C (hvA s (ct i) (Int.tdiv (w s.1 (ct i)) 2)).1 + 1 ≤ ptt ct C s.1) ∧
    ∀ (f : Nat) (x : Int) (s : HvS), HvI q m p T s → HvI q m p T (hvG w hd cf ct C f x s) ∧ bcF s.1 ≤ bcF (hvG w hd cf ct C f x s).1 ∧ bcF (hvG w hd cf ct C f x s).1 + ptt ct C (hvG w hd cf ct C f x s).1 ≤ bcF s.1 + ptt ct C s.1 := by
  have p2 := p2_le hT
  have step : ∀ (s : HvS) (i : Int), 0 ≤ i → i < (C : Int) → HvI q m p T s → bt hd (ct i) = true → bt s.1 (ct i) = false → HvI q m p T (hvA s (ct i) (Int.tdiv (w s.1 (ct i)) 2)) ∧ bcF (hvA s (ct i) (Int.tdiv (w s.1 (ct i)) 2)).1 = bcF s.1 + 1 ∧ ptt ct C (hvA s (ct i) (Int.tdiv (w s.1 (ct i)) 2)).1 + 1 ≤ ptt ct C s.1 := by
    intro s i i0 i1 h hb1 hb2
    have ci := hct i i0 i1
    have hs := h.1
    have wr := hw s.1 (ct i)
    have bi : bcF (ins s.1 (ct i)) = bcF s.1 + 1 := bcF_ins ⟨by omega, by omega⟩ ⟨by omega, by omega⟩ hb2
    have hl := h.2.2.2.2
    refine ⟨h.add h0 hp hT ci ?_ ?_ (by rw [bi]; omega), bi, ptt_ins ⟨by omega, by omega⟩ (fun k k0 k1 => by have := hct k k0 k1; omega) i0 i1 hb2⟩
    · rw [Int.tdiv_eq_ediv_of_nonneg wr.1]; omega
    · rw [h.2.2.2.1 (ct i) ci.1 ci.2 hb2]; exact (hhd _ ci.1 hb1).2
  refine ⟨step, fun f => ?_⟩
  induction f with
  | zero => exact fun x s h => ⟨h, Int.le_refl _, Int.le_refl _⟩
  | succ f ih =>
    intro x s h
    have loop : ∀ (n : Nat) (i : Int) (s : HvS), 0 ≤ i → i + (n : Int) = (C : Int) → HvI q m p T s → HvI q m p T (hvF w hd cf ct (hvG w hd cf ct C f) x n i s) ∧ bcF s.1 ≤ bcF (hvF w hd cf ct (hvG w hd cf ct C f) x n i s).1 ∧ bcF (hvF w hd cf ct (hvG w hd cf ct C f) x n i s).1 + ptt ct C (hvF w hd cf ct (hvG w hd cf ct C f) x n i s).1 ≤ bcF s.1 + ptt ct C s.1 := by
      intro n
      induction n with
      | zero => exact fun i s _ _ h => ⟨h, Int.le_refl _, Int.le_refl _⟩
      | succ n il =>
        intro i s i0 i1 h
        unfold hvF
        by_cases c : cf i = x ∧ bt hd (ct i) = true ∧ bt s.1 (ct i) = false
        · rw [if_pos c]
          obtain ⟨a1, a2, a3⟩ := step s i i0 (by omega) h c.2.1 c.2.2
          obtain ⟨b1, b2, b3⟩ := ih (ct i) _ a1
          obtain ⟨c1, c2, c3⟩ := il (i + 1) _ (by omega) (by omega) b1
          exact ⟨c1, (by omega), (by omega)⟩
        · rw [if_neg c]
          exact il (i + 1) s (by omega) (by omega) h
    exact loop C 0 s (by decide) (by omega) h
/-- the class's lists -/
def EntS (τ : Mem) : List (Int × Int) → Prop
  | [] => True
  | e :: l => (τ 48 (l.length : Int) = e.1 ∧ τ 49 (l.length : Int) = e.2) ∧ EntS τ l
theorem EntS.cg {σ τ : Mem} : ∀ {l : List (Int × Int)}, EntS σ l → (∀ i, 0 ≤ i → i < (l.length : Int) → τ 48 i = σ 48 i ∧ τ 49 i = σ 49 i) → EntS τ l
  | [], _, _ => True.intro
  | e :: l, h, hc => by
    have c := hc (l.length : Int) (by omega) (by rw [List.length_cons]; omega)
    exact ⟨⟨by rw [c.1]; exact h.1.1, by rw [c.2]; exact h.1.2⟩, EntS.cg h.2 (fun i i0 i1 => hc i i0 (by rw [List.length_cons]; omega))⟩
def CsH (τ : Mem) (hd : Int) (s : HvS) : Prop := (τ 47 4 = (s.2.length : Int) ∧ τ 47 5 = tot s.2 ∧ τ 47 6 = s.1 ∧ τ 47 7 = hd) ∧ EntS τ s.2
theorem addC {τ : Mem} {hd : Int} {s : HvS} (h : CsH τ hd s) (d : Nat) {x g : Int} (hl : (s.2.length : Int) < 8) {Q : RV → Mem → Prop} (hQ : ∀ τ', Sm τ τ' [47, 48, 49] [] → CsH τ' hd (hvA s x g) → Q rV τ') : Cl (d + 1) mHa_add [aR 47, aI x, aI g] τ Q := by
  obtain ⟨⟨c4, c5, c6, c7⟩, ce⟩ := h
  refine bHa_add_in ⟨⟨by omega, by omega⟩, fun q => absurd q (by omega), fun _ => ⟨(by omega), ?_⟩⟩
  refine hQ _ (((((Sm.refl.ups rfl (Or.inl (by decide))).ups rfl (Or.inl (by decide))).ups rfl (Or.inl (by decide))).ups rfl (Or.inl (by decide))).ups rfl (Or.inl (by decide))) ⟨⟨?_, ?_, ?_, ?_⟩, ⟨?_, ?_⟩, ?_⟩
  · rw [ups_fn (by omega), ups_fn (by omega), ups_hit, c4]
    show _ = ((((x, g) :: s.2).length : Nat) : Int)
    rw [List.length_cons]; omega
  · rw [ups_fn (by omega), ups_hit, c5]; rfl
  · rw [ups_hit, c6]; rfl
  · rw [ups_fn (by omega), ups_fn (by omega), ups_fn (by omega), ups_ne (by decide), ups_ne (by decide)]; exact c7
  · rw [ups_ne (by decide), ups_ne (by decide), ups_ne (by decide), ups_ne (by decide), c4, ups_hit]
  · rw [ups_ne (by decide), ups_ne (by decide), ups_ne (by decide), c4, ups_hit]
  · refine ce.cg (fun i i0 i1 => ⟨?_, ?_⟩)
    · rw [ups_ne (by decide), ups_ne (by decide), ups_ne (by decide), ups_ne (by decide), c4, ups_fn (by omega)]
    · rw [ups_ne (by decide), ups_ne (by decide), ups_ne (by decide), c4, ups_fn (by omega), ups_ne (by decide)]
theorem toldCm {σ : Mem} (hM : MarkI σ) (d : Nat) {k : Int} (hk : 0 ≤ k ∧ k < σ 64 40) {Q : RV → Mem → Prop} (h : Q (rI (σ 88 k)) σ) : Cl (d + 1) mMk_told [aR 14, aI 3, aI k, aI 0] σ Q := by
  obtain ⟨⟨m1, m2, m3, m4⟩, ⟨n1, n2, n3, n4⟩, -, -, -, -, m5⟩ := hM
  obtain ⟨⟨k1, k2⟩, k3, k4, -⟩ := m5 k hk.1 hk.2
  refine bMk_told_r14_in ⟨⟨by omega, by omega⟩, fun q => absurd q (by omega), fun _ => ⟨by decide, by decide, by rw [m4]; exact ⟨by omega, by omega⟩, fun q => absurd q (by omega), fun _ => ⟨by decide, fun q => absurd q (by decide), fun _ => ⟨by decide, fun _ => ⟨(by omega), (by omega), ?_⟩, fun q => absurd q (by decide)⟩⟩⟩⟩
  rw [show (3 * 30 + k * 3 + 0 : Int) = 90 + 3 * k by omega, k1]; exact h
theorem toldCt {σ : Mem} (hM : MarkI σ) (d : Nat) {k : Int} (hk : 0 ≤ k ∧ k < σ 64 40) {Q : RV → Mem → Prop} (h : Q (rI (σ 89 k)) σ) : Cl (d + 1) mMk_told [aR 14, aI 3, aI k, aI 1] σ Q := by
  obtain ⟨⟨m1, m2, m3, m4⟩, ⟨n1, n2, n3, n4⟩, -, -, -, -, m5⟩ := hM
  obtain ⟨⟨k1, k2⟩, k3, k4, -⟩ := m5 k hk.1 hk.2
  refine bMk_told_r14_in ⟨⟨by omega, by omega⟩, fun q => absurd q (by omega), fun _ => ⟨by decide, by decide, by rw [m4]; exact ⟨by omega, by omega⟩, fun q => absurd q (by omega), fun _ => ⟨by decide, fun q => absurd q (by decide), fun _ => ⟨by decide, fun _ => ⟨(by omega), (by omega), ?_⟩, fun q => absurd q (by decide)⟩⟩⟩⟩
  rw [show (3 * 30 + k * 3 + 1 : Int) = 90 + 3 * k + 1 by omega, k2]; exact h
/-- the eye tells what each would give -/
def Dl (σ : Mem) (w : Int → Int → Int) (lo hi : Int) : Prop := ∀ (τ : Mem), Sm σ τ [47, 48, 49] [] → ∀ (d : Nat) (s x : Int), st8 s → lo ≤ bcF s → bcF s ≤ hi → 0 ≤ x → x < σ 64 37 → Cl (d + 3) mEy_delight [aR 44, aI x, aI s] τ (fun r τ' => r = rI (w s x) ∧ τ' = τ)
theorem bringC {σ : Mem} (hM : MarkI σ) {w : Int → Int → Int} {hd lo hi : Int} (hhd8 : st8 hd) (hD : Dl σ w lo hi) {q : Int} {m : Int → Int} {p : Int} (h0 : 0 ≤ m 114 ∧ m 114 ≤ 60) (hp : 0 ≤ p ∧ p < 6) (hw : ∀ s x, 0 ≤ w s x ∧ w s x ≤ 999) (hhd : ∀ u, 0 ≤ u → bt hd u = true → u < σ 64 37 ∧ 0 < m (8 * p + u)) : ∀ (f d : Nat) (x : Int) (s : HvS) (τ : Mem) (Q : RV → Mem → Prop), f ≤ 8 → (0 ≤ x ∧ x < 8) → HvI q m p (σ 64 37) s → lo ≤ bcF s.1 → (hi = σ 64 37 ∨ bcF s.1 + ptt (σ 89) (σ 64 40).toNat s.1 ≤ hi + 1) → Sm σ τ [47, 48, 49] [] → CsH τ hd s →
    (∀ τ', Sm σ τ' [47, 48, 49] [] → CsH τ' hd (hvG w hd (σ 88) (σ 89) (σ 64 40).toNat f x s) → Q rV τ') → Cl (d + f + 4) mHa_bringAlong [aR 47, aI x, aI (8 - (f : Int))] τ Q := by
  have hM' := hM
  obtain ⟨⟨m1, m2, m3, m4⟩, ⟨n1, n2, n3, n4⟩, -, -, -, -, m5⟩ := hM
  have p2 := p2_le n1
  have hct : ∀ i, 0 ≤ i → i < (((σ 64 40).toNat : Nat) : Int) → 0 ≤ σ 89 i ∧ σ 89 i < σ 64 37 := fun i i0 i1 => (m5 i i0 (by omega)).2.2.1
  obtain ⟨step, okG⟩ := hv_ok (w := w) (hd := hd) (cf := σ 88) (ct := σ 89) (C := (σ 64 40).toNat) (q := q) h0 hp n1 hw hct hhd
  intro f
  induction f with
  | zero =>
    intro d x s τ Q hf hx hI hlo hpot sm cs h
    exact bHa_bringAlong_in ⟨by decide, fun z => absurd z (by decide), fun _ => h τ sm cs⟩
  | succ f ih =>
    intro d x s τ Q hf hx hI hlo hpot sm cs h
    refine bHa_bringAlong_in ⟨⟨by omega, by omega⟩, fun _ => ?_, fun z => absurd z (by omega)⟩
    have loop : ∀ (n : Nat) (i : Int) (s : HvS) (τ : Mem) (u4 : Option AV), 0 ≤ i → i + (n : Int) = σ 64 40 → HvI q m p (σ 64 37) s → lo ≤ bcF s.1 → (hi = σ 64 37 ∨ bcF s.1 + ptt (σ 89) (σ 64 40).toNat s.1 ≤ hi + 1) → Sm σ τ [47, 48, 49] [] → CsH τ hd s → (∀ τ', Sm σ τ' [47, 48, 49] [] → CsH τ' hd (hvF w hd (σ 88) (σ 89) (hvG w hd (σ 88) (σ 89) (σ 64 40).toNat f) x n i s) → Q rV τ') → Ev (d + f + 1 + 4) mHa_bringAlong 9 [vR 47, vI x, vI (8 - ((f + 1 : Nat) : Int)), vI i, u4] [] τ Q := by
      intro n
      induction n with
      | zero =>
        intro i s τ u4 i0 i1 hI hlo hpot sm cs h
        have e15 : τ 15 3 = σ 64 40 := by rw [sm.1 15 rfl]; exact m4
        exact bHa_bringAlong_9 ⟨⟨by omega, by omega⟩, by rw [e15]; exact ⟨by omega, by omega⟩, fun _ => h τ sm cs, fun z => absurd z (by rw [e15]; omega)⟩
      | succ n il =>
        intro i s τ u4 i0 i1 hI hlo hpot sm cs h
        have e15 : τ 15 3 = σ 64 40 := by rw [sm.1 15 rfl]; exact m4
        have hM2 := hM'.sm' sm (by decide)
        have e40 : τ 64 40 = σ 64 40 := by rw [sm.1 64 rfl]
        have hs := hI.1
        obtain ⟨⟨c4, c5, c6, c7⟩, ce⟩ := cs
        obtain ⟨-, k3, k4, -⟩ := m5 i i0 (by omega)
        have un : hvF w hd (σ 88) (σ 89) (hvG w hd (σ 88) (σ 89) (σ 64 40).toNat f) x (n + 1) i s = hvF w hd (σ 88) (σ 89) (hvG w hd (σ 88) (σ 89) (σ 64 40).toNat f) x n (i + 1) (if σ 88 i = x ∧ bt hd (σ 89 i) = true ∧ bt s.1 (σ 89 i) = false then hvG w hd (σ 88) (σ 89) (σ 64 40).toNat f (σ 89 i) (hvA s (σ 89 i) (Int.tdiv (w s.1 (σ 89 i)) 2)) else s) := rfl
        rw [un] at h
        refine bHa_bringAlong_9 ⟨⟨by omega, by omega⟩, by rw [e15]; exact ⟨by omega, by omega⟩, fun z => absurd z (by rw [e15]; omega), fun _ => toldCt hM2 (d + f + 3) (by rw [e40]; exact ⟨by omega, by omega⟩) (toldCm hM2 (d + f + 3) (by rw [e40]; exact ⟨by omega, by omega⟩) ?_)⟩
        rw [sm.1 88 rfl, sm.1 89 rfl, c6, c7]
        refine ⟨⟨by omega, by omega⟩, ⟨by omega, by omega⟩, fun z => ?_, fun z => ⟨rg_and _ _, fun y => ?_, fun y => ?_⟩⟩
        · rw [if_neg (fun g => z g.1)] at h
          exact il (i + 1) s τ _ (by omega) (by omega) hI hlo hpot sm ⟨⟨c4, c5, c6, c7⟩, ce⟩ h
        · rw [if_neg (fun g => ?_)] at h
          · exact il (i + 1) s τ _ (by omega) (by omega) hI hlo hpot sm ⟨⟨c4, c5, c6, c7⟩, ce⟩ h
          · refine y ((hb_bt (s := dif hd s.1) (t := σ 89 i) ?_ ⟨by omega, by omega⟩).mpr ?_)
            · have := dif_lt (m := 8) hhd8 (t := s.1) ⟨by omega, by omega⟩ (by decide); omega
            · rw [bt_dif ⟨by omega, by omega⟩ ⟨by omega, by omega⟩ ⟨by omega, by omega⟩, g.2.1, g.2.2]; rfl
        · have y2 := (hb_bt (s := dif hd s.1) (t := σ 89 i) (by have := dif_lt (m := 8) hhd8 (t := s.1) ⟨by omega, by omega⟩ (by decide); omega) ⟨by omega, by omega⟩).mp y
          rw [bt_dif ⟨by omega, by omega⟩ ⟨by omega, by omega⟩ ⟨by omega, by omega⟩, Bool.and_eq_true, Bool.not_eq_true'] at y2
          rw [if_pos ⟨z, y2⟩] at h
          obtain ⟨a1, a2, a3⟩ := step s i i0 (by omega) hI y2.1 y2.2
          obtain ⟨b1, b2, b3⟩ := okG f (σ 89 i) _ a1
          have pn := ptt_nn (σ 89) (σ 64 40).toNat (hvA s (σ 89 i) (Int.tdiv (w s.1 (σ 89 i)) 2)).1
          have bT := bcF_T n1 hs
          have wr := hw s.1 (σ 89 i)
          have b8 : bcF s.1 + 1 ≤ 8 := by
            rw [← a2]
            exact (bcF_r (by have := a1.1; exact ⟨by omega, by omega⟩)).2
          have hl := hI.2.2.2.2
          refine Cl.mono (hD τ sm (d + f + 1) s.1 (σ 89 i) ⟨by omega, by omega⟩ hlo (by rcases hpot with e | e <;> omega) k4.1 k4.2) (fun r τ' hr => ?_)
          obtain ⟨rfl, rfl⟩ := hr
          refine ⟨⟨by omega, by omega⟩, addC ⟨⟨c4, c5, c6, c7⟩, ce⟩ (d + f + 3) (by omega) (fun τ2 s2 cs2 => ?_)⟩
          rw [show 8 - ((f + 1 : Nat) : Int) + 1 = 8 - (f : Int) by omega]
          refine ih d (σ 89 i) _ τ2 _ (by omega) ⟨by omega, by omega⟩ a1 (by omega) (by rcases hpot with e | e; exact Or.inl e; right; omega) (sm.trans s2) cs2 (fun τ3 s3 cs3 => ?_)
          exact il (i + 1) _ τ3 _ (by omega) (by omega) b1 (by omega) (by rcases hpot with e | e; exact Or.inl e; right; omega) s3 cs3 h
    have := loop (σ 64 40).toNat 0 s τ vU (by decide) (by omega) hI hlo hpot sm cs h
    exact this
