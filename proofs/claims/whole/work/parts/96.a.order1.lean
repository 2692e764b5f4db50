/-! ===== ORDER: HAVINGS FROM A SET ===== -/
theorem i_shr1 {s t : Int} (h : 0 ≤ s ∧ s < 2147483648) (ht : 0 ≤ t ∧ t < 31) : i_and (i_shr s t) 1 = if bt s t = true then 1 else 0 := by
  obtain ⟨n, rfl⟩ : ∃ n : Nat, s = (n : Int) := ⟨_, toN h.1⟩
  obtain ⟨k, rfl⟩ : ∃ n : Nat, t = (n : Int) := ⟨_, toN ht.1⟩
  unfold bt
  rw [i_shr_n (by omega) (by omega), show i_and ((n >>> k : Nat) : Int) 1 = i_and ((n >>> k : Nat) : Int) ((1 : Nat) : Int) from rfl, i_and_n (by have := Nat.shiftRight_le n k; omega) (by decide)]
  show ((n >>> k &&& 1 : Nat) : Int) = if n.testBit k = true then (1 : Int) else 0
  rw [Nat.testBit, Nat.and_one_is_mod, Nat.one_and_eq_mod_two]
  have : n >>> k % 2 = 0 ∨ n >>> k % 2 = 1 := by omega
  rcases this with e | e <;> rw [e] <;> simp
theorem bt_and {s t u : Int} (h : 0 ≤ s ∧ s < 2147483648) (ht : 0 ≤ t ∧ t < 2147483648) : bt (i_and s t) u = (bt s u && bt t u) := by
  obtain ⟨a, rfl⟩ : ∃ n : Nat, s = (n : Int) := ⟨_, toN h.1⟩
  obtain ⟨b, rfl⟩ : ∃ n : Nat, t = (n : Int) := ⟨_, toN ht.1⟩
  rw [i_and_n (by omega) (by omega)]
  unfold bt
  rw [Int.toNat_natCast, Int.toNat_natCast, Int.toNat_natCast, Nat.testBit_and]
theorem and_lt {s t : Int} {m : Nat} (h : 0 ≤ s ∧ s < 2 ^ m) (ht : 0 ≤ t ∧ t < 2147483648) (hm : m ≤ 31) : (0 ≤ i_and s t ∧ i_and s t < 2 ^ m) ∧ i_and s t ≤ t := by
  obtain ⟨a, rfl⟩ : ∃ n : Nat, s = (n : Int) := ⟨_, toN h.1⟩
  obtain ⟨b, rfl⟩ : ∃ n : Nat, t = (n : Int) := ⟨_, toN ht.1⟩
  have p2 : (2 : Nat) ^ m ≤ 2 ^ 31 := Nat.pow_le_pow_right (by decide) hm
  have h2 : a < 2 ^ m := by exact_mod_cast h.2
  rw [i_and_n (by omega) (by omega)]
  have h5 : a &&& b < 2 ^ m := by rw [Nat.and_comm]; exact Nat.and_lt_two_pow _ h2
  have h6 : a &&& b ≤ b := Nat.and_le_right
  exact ⟨⟨Int.natCast_nonneg _, by exact_mod_cast h5⟩, by exact_mod_cast h6⟩
theorem sub_le {a b : Int} (ha : st8 a) (hb : st8 b) (h : ∀ u : Int, 0 ≤ u → u < 8 → bt a u = true → bt b u = true) : a ≤ b := by
  have l := and_lt (m := 8) (s := a) (t := b) ⟨by omega, by omega⟩ ⟨by omega, by omega⟩ (by decide)
  have e : i_and a b = a := bt_ext ⟨l.1.1, l.1.2⟩ ha (fun u u0 u1 => by
    rw [bt_and ⟨by omega, by omega⟩ ⟨by omega, by omega⟩]
    cases c : bt a u
    · rfl
    · rw [h u u0 u1 c]; rfl)
  have := l.2
  omega
theorem bcF_sub {a b : Int} (ha : st8 a) (hb : st8 b) (h : ∀ u : Int, 0 ≤ u → u < 8 → bt a u = true → bt b u = true) : bcF a ≤ bcF b := by
  obtain ⟨n, rfl⟩ : ∃ n : Nat, a = (n : Int) := ⟨_, toN ha.1⟩
  obtain ⟨k, rfl⟩ : ∃ n : Nat, b = (n : Int) := ⟨_, toN hb.1⟩
  have e1 := bcF_sum' ⟨n, by omega⟩
  have e2 := bcF_sum' ⟨k, by omega⟩
  dsimp only at e1 e2
  rw [e1, e2]
  refine sumI_pw (fun i i0 i1 => ?_)
  by_cases c : bt (n : Int) i = true
  · by_cases z : i < 8
    · rw [if_pos c, if_pos (h i i0 z c)]; exact Int.le_refl _
    · rw [bt_hi (n := 8) ⟨ha.1, ha.2⟩ (by omega)] at c; cases c
  · rw [if_neg c]; split <;> decide
theorem hvG_sub {w : Int → Int → Int} {hd : Int} {cf ct : Int → Int} {C : Nat} (hct : ∀ i, 0 ≤ i → i < (C : Int) → 0 ≤ ct i ∧ ct i < 8) : ∀ (f : Nat) (x : Int) (s : HvS), st8 s.1 → st8 (hvG w hd cf ct C f x s).1 ∧ ∀ u, 0 ≤ u → (bt s.1 u = true → bt (hvG w hd cf ct C f x s).1 u = true) ∧ (bt (hvG w hd cf ct C f x s).1 u = true → bt s.1 u = true ∨ bt hd u = true)
  | 0, x, s, h => ⟨h, fun u _ => ⟨id, Or.inl⟩⟩
  | f + 1, x, s, h => by
    have loop : ∀ (n : Nat) (i : Int) (s : HvS), 0 ≤ i → i + (n : Int) = (C : Int) → st8 s.1 → st8 (hvF w hd cf ct (hvG w hd cf ct C f) x n i s).1 ∧ ∀ u, 0 ≤ u → (bt s.1 u = true → bt (hvF w hd cf ct (hvG w hd cf ct C f) x n i s).1 u = true) ∧ (bt (hvF w hd cf ct (hvG w hd cf ct C f) x n i s).1 u = true → bt s.1 u = true ∨ bt hd u = true) := by
      intro n
      induction n with
      | zero => exact fun i s _ _ h => ⟨h, fun u _ => ⟨id, Or.inl⟩⟩
      | succ n il =>
        intro i s i0 i1 h
        unfold hvF
        by_cases c : cf i = x ∧ bt hd (ct i) = true ∧ bt s.1 (ct i) = false
        · rw [if_pos c]
          have ci := hct i i0 (by omega)
          have i8 := ins_lt (m := 8) (s := s.1) (t := ct i) ⟨h.1, h.2⟩ ⟨by omega, by omega⟩ (by decide)
          obtain ⟨a1, a2⟩ := hvG_sub (w := w) (hd := hd) (cf := cf) hct f (ct i) (hvA s (ct i) (Int.tdiv (w s.1 (ct i)) 2)) ⟨i8.1, i8.2⟩
          obtain ⟨b1, b2⟩ := il (i + 1) _ (by omega) (by omega) a1
          refine ⟨b1, fun u u0 => ?_⟩
          have bi := bt_ins (s := s.1) (t := ct i) (u := u) ⟨by omega, by omega⟩ ⟨by omega, by omega⟩ u0
          refine ⟨fun z => (b2 u u0).1 ((a2 u u0).1 (by show bt (ins s.1 (ct i)) u = true; rw [bi, z]; rfl)), fun z => ?_⟩
          rcases (b2 u u0).2 z with y | y
          · rcases (a2 u u0).2 y with y | y
            · change bt (ins s.1 (ct i)) u = true at y
              rw [bi, Bool.or_eq_true, decide_eq_true_iff] at y
              rcases y with y | y
              · exact Or.inl y
              · rw [y]; exact Or.inr c.2.1
            · exact Or.inr y
          · exact Or.inr y
        · rw [if_neg c]
          exact il (i + 1) s (by omega) (by omega) h
    exact loop C 0 s (by decide) (by omega) h
theorem hvG_hd {w : Int → Int → Int} {hd hd' : Int} {cf ct : Int → Int} {C : Nat} (hct : ∀ i, 0 ≤ i → i < (C : Int) → 0 ≤ ct i ∧ ct i < 8) : ∀ (f : Nat) (x : Int) (s : HvS), st8 s.1 → (∀ u, 0 ≤ u → u < 8 → bt s.1 u = false → bt hd' u = bt hd u) → hvG w hd' cf ct C f x s = hvG w hd cf ct C f x s
  | 0, x, s, h, e => rfl
  | f + 1, x, s, h, e => by
    have loop : ∀ (n : Nat) (i : Int) (s : HvS), 0 ≤ i → i + (n : Int) = (C : Int) → st8 s.1 → (∀ u, 0 ≤ u → u < 8 → bt s.1 u = false → bt hd' u = bt hd u) → hvF w hd' cf ct (hvG w hd' cf ct C f) x n i s = hvF w hd cf ct (hvG w hd cf ct C f) x n i s := by
      intro n
      induction n with
      | zero => exact fun i s _ _ _ _ => rfl
      | succ n il =>
        intro i s i0 i1 h e
        have ci := hct i i0 (by omega)
        unfold hvF
        by_cases b : bt s.1 (ct i) = false
        · rw [e (ct i) ci.1 ci.2 b]
          by_cases c : cf i = x ∧ bt hd (ct i) = true ∧ bt s.1 (ct i) = false
          · rw [if_pos c, if_pos c]
            have i8 := ins_lt (m := 8) (s := s.1) (t := ct i) ⟨h.1, h.2⟩ ⟨by omega, by omega⟩ (by decide)
            have e2 : ∀ u, 0 ≤ u → u < 8 → bt (ins s.1 (ct i)) u = false → bt hd' u = bt hd u := fun u u0 u1 z => e u u0 u1 (by
              rw [bt_ins ⟨by omega, by omega⟩ ⟨by omega, by omega⟩ u0, Bool.or_eq_false_iff] at z
              exact z.1)
            rw [hvG_hd (hd' := hd') (hd := hd) hct f (ct i) (hvA s (ct i) (Int.tdiv (w s.1 (ct i)) 2)) ⟨i8.1, i8.2⟩ e2]
            obtain ⟨a1, a2⟩ := hvG_sub (w := w) (hd := hd) (cf := cf) hct f (ct i) (hvA s (ct i) (Int.tdiv (w s.1 (ct i)) 2)) ⟨i8.1, i8.2⟩
            refine il (i + 1) _ (by omega) (by omega) a1 (fun u u0 u1 z => e2 u u0 u1 (Bool.eq_false_iff.mpr (fun y => ?_)))
            rw [(a2 u u0).1 y] at z
            cases z
          · rw [if_neg c, if_neg c]
            exact il (i + 1) s (by omega) (by omega) h e
        · rw [if_neg (fun z => b z.2.2), if_neg (fun z => b z.2.2)]
          exact il (i + 1) s (by omega) (by omega) h e
    exact loop C 0 s (by decide) (by omega) h e
/-- what one having of x gives to one that had s -/
def hvO (w : Int → Int → Int) (hd : Int) (cf ct : Int → Int) (C : Nat) (s x : Int) : HvS := hvG w hd cf ct C 8 x (hvA (s, []) x (w s x))
def fkm (s : Int) : Int → Int := fun i => if i = 48 then s else if i < 8 then 1 else 0
theorem hvO_ok {w : Int → Int → Int} {hd : Int} {cf ct : Int → Int} {C : Nat} {T : Int} (hT : 0 ≤ T ∧ T ≤ 8) (hw : ∀ s x, 0 ≤ w s x ∧ w s x ≤ 999) (hct : ∀ i, 0 ≤ i → i < (C : Int) → 0 ≤ ct i ∧ ct i < T) (hhd : ∀ u, 0 ≤ u → bt hd u = true → u < T) {s x : Int} (hs : 0 ≤ s ∧ s < 2 ^ T.toNat) (hx : 0 ≤ x ∧ x < T) :
    (HvI 1 (fkm s) 0 T (hvA (s, []) x (w s x)) ∧ HvI 1 (fkm s) 0 T (hvO w hd cf ct C s x)) ∧ (0 ≤ (hvO w hd cf ct C s x).1 ∧ (hvO w hd cf ct C s x).1 < 2 ^ T.toNat) ∧ (0 ≤ tot (hvO w hd cf ct C s x).2 ∧ tot (hvO w hd cf ct C s x).2 ≤ 7992) ∧ ∀ u, 0 ≤ u → (bt s u = true ∨ u = x → bt (hvO w hd cf ct C s x).1 u = true) ∧ (bt (hvO w hd cf ct C s x).1 u = true → (bt s u = true ∨ u = x) ∨ bt hd u = true) := by
  have p2 := p2_le hT
  have il := ins_lt (m := T.toNat) (s := s) (t := x) hs ⟨by omega, by omega⟩ (by omega)
  have fk : HvI 1 (fkm s) 0 T (s, []) := ⟨hs, True.intro, rfl, fun _ _ _ _ => rfl, by show ((0 : Nat) : Int) ≤ bcF s; have := bcF_r (s := s) ⟨by omega, by omega⟩; omega⟩
  have a0 : HvI 1 (fkm s) 0 T (hvA (s, []) x (w s x)) := fk.add (show 0 ≤ (0 : Int) ∧ (0 : Int) ≤ 60 by decide) (by decide) hT hx (hw s x) (by
    show 0 < fkm s (8 * 0 + x)
    unfold fkm; rw [if_neg (by omega), if_pos (by omega)]; decide) (by show ((0 : Nat) : Int) + 1 ≤ bcF (ins s x); have := bcF_pos (s := s) (x := x) ⟨by omega, by omega⟩ ⟨by omega, by omega⟩; omega)
  obtain ⟨-, okG⟩ := hv_ok (w := w) (hd := hd) (cf := cf) (ct := ct) (C := C) (q := 1) (m := fkm s) (p := 0) (T := T) (show 0 ≤ (0 : Int) ∧ (0 : Int) ≤ 60 by decide) (by decide) hT hw hct (fun u u0 hb => ⟨hhd u u0 hb, by
    have := hhd u u0 hb
    unfold fkm; rw [if_neg (by omega), if_pos (by omega)]; decide⟩)
  obtain ⟨a1, a2, a3⟩ := okG 8 x _ a0
  obtain ⟨b1, b2⟩ := hvG_sub (w := w) (hd := hd) (cf := cf) (ct := ct) (C := C) (fun i i0 i1 => by have := hct i i0 i1; omega) 8 x (hvA (s, []) x (w s x)) (by show st8 (ins s x); exact ⟨by omega, by omega⟩)
  have t := tot_r a1.2.1
  have l8 := (bcF_r b1).2
  have l9 := a1.2.2.2.2
  change (((hvO w hd cf ct C s x).2.length : Nat) : Int) ≤ bcF (hvO w hd cf ct C s x).1 at l9
  change bcF (hvO w hd cf ct C s x).1 ≤ 8 at l8
  change 0 ≤ tot (hvO w hd cf ct C s x).2 ∧ tot (hvO w hd cf ct C s x).2 ≤ 999 * (((hvO w hd cf ct C s x).2.length : Nat) : Int) at t
  refine ⟨⟨a0, a1⟩, a1.1, ⟨by omega, by omega⟩, fun u u0 => ?_⟩
  have bi : bt (hvA (s, []) x (w s x)).1 u = (bt s u || decide (u = x)) := bt_ins (s := s) (t := x) (u := u) ⟨by omega, by omega⟩ ⟨by omega, by omega⟩ u0
  have c := b2 u u0
  rw [bi, Bool.or_eq_true, decide_eq_true_iff] at c
  exact c
theorem hvO_bc {w : Int → Int → Int} {hd : Int} {cf ct : Int → Int} {C : Nat} {T : Int} (hT : 0 ≤ T ∧ T ≤ 8) (hw : ∀ s x, 0 ≤ w s x ∧ w s x ≤ 999) (hct : ∀ i, 0 ≤ i → i < (C : Int) → 0 ≤ ct i ∧ ct i < T) (hhd : ∀ u, 0 ≤ u → bt hd u = true → u < T) {s x : Int} (hs : 0 ≤ s ∧ s < 2 ^ T.toNat) (hx : 0 ≤ x ∧ x < T) (hb : bt s x = false) : bcF s + 1 ≤ bcF (hvO w hd cf ct C s x).1 ∧ s < (hvO w hd cf ct C s x).1 := by
  have p2 := p2_le hT
  obtain ⟨-, v, -, b⟩ := hvO_ok (C := C) (cf := cf) hT hw hct hhd hs hx
  have il := ins_lt (m := T.toNat) (s := s) (t := x) hs ⟨by omega, by omega⟩ (by omega)
  have sub : ∀ u : Int, 0 ≤ u → u < 8 → bt (ins s x) u = true → bt (hvO w hd cf ct C s x).1 u = true := fun u u0 _ z => (b u u0).1 (by
    rw [bt_ins ⟨by omega, by omega⟩ ⟨by omega, by omega⟩ u0, Bool.or_eq_true, decide_eq_true_iff] at z; exact z)
  have c := bcF_sub (a := ins s x) (b := (hvO w hd cf ct C s x).1) ⟨by omega, by omega⟩ ⟨by omega, by omega⟩ sub
  have e := sub_le (a := ins s x) (b := (hvO w hd cf ct C s x).1) ⟨by omega, by omega⟩ ⟨by omega, by omega⟩ sub
  rw [bcF_ins ⟨by omega, by omega⟩ ⟨by omega, by omega⟩ hb] at c
  have r := rem_ins (S := s) (t := x) ⟨by omega, by omega⟩ ⟨by omega, by omega⟩ hb
  have bi : bt (ins s x) x = true := by rw [bt_ins ⟨by omega, by omega⟩ ⟨by omega, by omega⟩ (by omega), decide_eq_true rfl, Bool.or_true]
  have q := rem_in (S := ins s x) (t := x) ⟨by omega, by omega⟩ ⟨by omega, by omega⟩ bi
  omega
/-- the best row from a set: joy, how long, digits -/
abbrev O3 : Type := Int × Int × Int
def ocd (H : HvS) (r : O3) (t : Int) : O3 := (tot H.2 + r.1, r.2.1 + 1, t * 10 ^ r.2.1.toNat + r.2.2)
abbrev obt (a c : O3) : Prop := a.1 < c.1 ∨ (c.1 = a.1 ∧ c.2.1 < a.2.1)
def oscn (H : Int → HvS) (f : Int → O3) (L : Int → Bool) : Nat → O3
  | 0 => (-1, 0, 0)
  | n + 1 => if L (Int.ofNat n) = true ∧ obt (oscn H f L n) (ocd (H (Int.ofNat n)) (f (H (Int.ofNat n)).1) (Int.ofNat n)) then ocd (H (Int.ofNat n)) (f (H (Int.ofNat n)).1) (Int.ofNat n) else oscn H f L n
theorem oscn_S {H : Int → HvS} {f : Int → O3} {L : Int → Bool} {i : Int} (h : 0 ≤ i) : oscn H f L (i + 1).toNat = if L i = true ∧ obt (oscn H f L i.toNat) (ocd (H i) (f (H i).1) i) then ocd (H i) (f (H i).1) i else oscn H f L i.toNat := by
  rw [show (i + 1).toNat = i.toNat + 1 by omega]
  show (if L (Int.ofNat i.toNat) = true ∧ obt (oscn H f L i.toNat) (ocd (H (Int.ofNat i.toNat)) (f (H (Int.ofNat i.toNat)).1) (Int.ofNat i.toNat)) then ocd (H (Int.ofNat i.toNat)) (f (H (Int.ofNat i.toNat)).1) (Int.ofNat i.toNat) else oscn H f L i.toNat) = _
  rw [show Int.ofNat i.toNat = i from Int.toNat_of_nonneg h]
def ofin (r : O3) : O3 := if r.1 = -1 then (0, 0, 0) else r
def ordF (H : Int → Int → HvS) (L : Int → Int → Bool) (T : Nat) : Nat → Int → O3
  | 0, _ => (0, 0, 0)
  | n + 1, s => ofin (oscn (H s) (ordF H L T n) (L s) T)
def OR (n : Nat) (r : O3) : Prop := (0 ≤ r.1 ∧ r.1 ≤ 7992 * (n : Int)) ∧ (0 ≤ r.2.1 ∧ r.2.1 ≤ (n : Int)) ∧ (0 ≤ r.2.2 ∧ r.2.2 < 10 ^ r.2.1.toNat)
theorem OR0 (n : Nat) : OR n (0, 0, 0) := by
  refine ⟨⟨?_, ?_⟩, ⟨?_, ?_⟩, ?_, ?_⟩ <;> dsimp only
  · decide
  · omega
  · decide
  · omega
  · decide
  · decide
theorem ocd_r {n : Nat} {H : HvS} {r : O3} {t : Int} (hr : OR n r) (hh : 0 ≤ tot H.2 ∧ tot H.2 ≤ 7992) (ht : 0 ≤ t ∧ t < 8) : OR (n + 1) (ocd H r t) ∧ 1 ≤ (ocd H r t).2.1 := by
  obtain ⟨a, b, c⟩ := hr
  have p := Int.pow_succ 10 r.2.1.toNat
  have q : t * 10 ^ r.2.1.toNat ≤ 7 * 10 ^ r.2.1.toNat := Int.mul_le_mul_of_nonneg_right (by omega) (by omega)
  have q0 : 0 ≤ t * 10 ^ r.2.1.toNat := Int.mul_nonneg ht.1 (by omega)
  have e : (r.2.1 + 1).toNat = r.2.1.toNat + 1 := by omega
  refine ⟨⟨⟨?_, ?_⟩, ⟨?_, ?_⟩, ?_, ?_⟩, ?_⟩
  · show 0 ≤ tot H.2 + r.1; omega
  · show tot H.2 + r.1 ≤ 7992 * ((n + 1 : Nat) : Int); omega
  · show 0 ≤ r.2.1 + 1; omega
  · show r.2.1 + 1 ≤ ((n + 1 : Nat) : Int); omega
  · show 0 ≤ t * 10 ^ r.2.1.toNat + r.2.2; omega
  · show t * 10 ^ r.2.1.toNat + r.2.2 < 10 ^ (r.2.1 + 1).toNat; rw [e, p]; omega
  · show 1 ≤ r.2.1 + 1; omega
theorem oscn_r {H : Int → HvS} {f : Int → O3} {L : Int → Bool} {n T : Nat} (hT : T ≤ 8) (hf : ∀ t : Int, 0 ≤ t → t < (T : Int) → L t = true → OR n (f (H t).1) ∧ 0 ≤ tot (H t).2 ∧ tot (H t).2 ≤ 7992) : ∀ k : Nat, k ≤ T → (oscn H f L k = (-1, 0, 0) ∧ ∀ t : Int, 0 ≤ t → t < (k : Int) → L t = false) ∨ (OR (n + 1) (oscn H f L k) ∧ 1 ≤ (oscn H f L k).2.1 ∧ ∃ t : Int, (0 ≤ t ∧ t < (k : Int)) ∧ L t = true)
  | 0, _ => Or.inl ⟨rfl, fun t t0 t1 => absurd t1 (by omega)⟩
  | k + 1, hk => by
    have ih := oscn_r hT hf k (by omega)
    have un := oscn_S (H := H) (f := f) (L := L) (i := (k : Int)) (by omega)
    rw [show (((k : Int) + 1).toNat) = k + 1 by omega, Int.toNat_natCast] at un
    rw [un]
    by_cases l : L (k : Int) = true
    · obtain ⟨h1, h2⟩ := hf (k : Int) (by omega) (by omega) l
      obtain ⟨c1, c2⟩ := ocd_r (H := H (k : Int)) (t := (k : Int)) h1 h2 ⟨by omega, by omega⟩
      right
      rcases ih with ⟨e, z⟩ | ⟨e, e2, z⟩
      · rw [if_pos ⟨l, Or.inl (by rw [e]; have := c1.1.1; show (-1 : Int) < _; omega)⟩]
        exact ⟨c1, c2, (k : Int), ⟨by omega, by omega⟩, l⟩
      · split
        · exact ⟨c1, c2, (k : Int), ⟨by omega, by omega⟩, l⟩
        · exact ⟨e, e2, (k : Int), ⟨by omega, by omega⟩, l⟩
    · rw [if_neg (fun z => l z.1)]
      rcases ih with ⟨e, z⟩ | ⟨e, e2, t, z, z2⟩
      · refine Or.inl ⟨e, fun t t0 t1 => ?_⟩
        by_cases c : t = (k : Int)
        · rw [c]; exact Bool.eq_false_iff.mpr l
        · exact z t t0 (by omega)
      · exact Or.inr ⟨e, e2, t, ⟨by omega, by omega⟩, z2⟩
theorem oscn_cg {H : Int → HvS} {f f' : Int → O3} {L : Int → Bool} : ∀ {k : Nat}, (∀ t : Int, 0 ≤ t → t < (k : Int) → L t = true → f' (H t).1 = f (H t).1) → oscn H f' L k = oscn H f L k
  | 0, _ => rfl
  | k + 1, h => by
    have ih := oscn_cg (H := H) (f := f) (f' := f') (L := L) (k := k) (fun t t0 t1 => h t t0 (by omega))
    unfold oscn
    rw [ih]
    by_cases l : L (Int.ofNat k) = true
    · rw [h (Int.ofNat k) (Int.ofNat_nonneg k) (by show ((k : Nat) : Int) < _; omega) l]
    · rw [if_neg (fun z => l z.1), if_neg (fun z => l z.1)]
def HOK (H : Int → Int → HvS) (L : Int → Int → Bool) (T : Int) : Prop := ∀ s t, (0 ≤ s ∧ s < 2 ^ T.toNat) → 0 ≤ t → t < T → L s t = true → bt s t = false ∧ (0 ≤ (H s t).1 ∧ (H s t).1 < 2 ^ T.toNat) ∧ bcF s + 1 ≤ bcF (H s t).1 ∧ (0 ≤ tot (H s t).2 ∧ tot (H s t).2 ≤ 7992)
theorem ofin_r {n : Nat} {r : O3} (h : r = (-1, 0, 0) ∨ OR n r) : OR n (ofin r) := by
  unfold ofin
  rcases h with e | e
  · rw [e]; exact OR0 n
  · split
    · exact OR0 n
    · exact e
theorem ordF_r {H : Int → Int → HvS} {L : Int → Int → Bool} {T : Int} (hT : 0 ≤ T ∧ T ≤ 8) (hH : HOK H L T) : ∀ (n : Nat) (s : Int), (0 ≤ s ∧ s < 2 ^ T.toNat) → OR n (ordF H L T.toNat n s)
  | 0, s, hs => OR0 0
  | n + 1, s, hs => by
    have r := oscn_r (H := H s) (f := ordF H L T.toNat n) (L := L s) (n := n) (T := T.toNat) (by omega) (fun t t0 t1 l => by
      obtain ⟨-, h2, -, h4⟩ := hH s t hs t0 (by omega) l
      exact ⟨ordF_r hT hH n _ h2, h4⟩) T.toNat (Nat.le_refl _)
    exact ofin_r (by rcases r with e | e; exact Or.inl e.1; exact Or.inr e.1)
theorem ordF_fuel {H : Int → Int → HvS} {L : Int → Int → Bool} {T : Int} (hT : 0 ≤ T ∧ T ≤ 8) (hH : HOK H L T) : ∀ (n : Nat) (s : Int), (0 ≤ s ∧ s < 2 ^ T.toNat) → 8 ≤ bcF s + (n : Int) → ordF H L T.toNat (n + 1) s = ordF H L T.toNat n s
  | 0, s, hs, hb => by
    have p2 := p2_le hT
    show ofin (oscn (H s) (ordF H L T.toNat 0) (L s) T.toNat) = (0, 0, 0)
    rcases oscn_r (H := H s) (f := ordF H L T.toNat 0) (L := L s) (n := 0) (T := T.toNat) (by omega) (fun t t0 t1 l => ⟨OR0 0, (hH s t hs t0 (by omega) l).2.2.2⟩) T.toNat (Nat.le_refl _) with e | ⟨-, -, t, t1, l⟩
    · rw [e.1]; rfl
    · exfalso
      have h1 := (hH s t hs t1.1 (by omega) l).1
      have h2 := bcF_ins (s := s) (t := t) ⟨by omega, by omega⟩ ⟨by omega, by omega⟩ h1
      have i8 := ins_lt (m := 8) (s := s) (t := t) ⟨hs.1, by omega⟩ ⟨by omega, by omega⟩ (by decide)
      have h3 := (bcF_r (s := ins s t) ⟨i8.1, i8.2⟩).2
      omega
  | n + 1, s, hs, hb => by
    show ofin (oscn (H s) (ordF H L T.toNat (n + 1)) (L s) T.toNat) = ofin (oscn (H s) (ordF H L T.toNat n) (L s) T.toNat)
    rw [oscn_cg (f := ordF H L T.toNat n) (fun t t0 t1 l => ?_)]
    obtain ⟨-, h2, h3, -⟩ := hH s t hs t0 (by omega) l
    exact ordF_fuel hT hH n _ h2 (by omega)
/-- the row kept -/
def oup (a c : O3) : O3 := if a.2.2 = -1 ∨ obt a c then c else a
def opre (L R S : Int) (c : O3) : O3 := (S + c.1, L + c.2.1, R * 10 ^ c.2.1.toNat + c.2.2)
def oacs (a : O3) (L R S : Int) (s : O3) : O3 := if s.1 = -1 then a else oup a (opre L R S s)
theorem oacc_step {a c s : O3} {L R S : Int} (hR : 0 ≤ R) (hs : s = (-1, 0, 0) ∨ (0 ≤ s.1 ∧ 0 ≤ s.2.2)) (hc : 0 ≤ c.1 ∧ 0 ≤ c.2.2) : oup (oacs a L R S s) (opre L R S c) = oacs a L R S (if obt s c then c else s) := by
  have nn : ∀ x : O3, 0 ≤ x.2.2 → ¬ (opre L R S x).2.2 = -1 := fun x hx z => by
    have p : 0 ≤ R * 10 ^ x.2.1.toNat := Int.mul_nonneg hR (Int.le_of_lt (Int.pow_pos (by decide)))
    change R * 10 ^ x.2.1.toNat + x.2.2 = -1 at z
    omega
  have iff : obt (opre L R S s) (opre L R S c) ↔ obt s c := by
    show (S + s.1 < S + c.1 ∨ (S + c.1 = S + s.1 ∧ L + c.2.1 < L + s.2.1)) ↔ (s.1 < c.1 ∨ (c.1 = s.1 ∧ c.2.1 < s.2.1))
    omega
  unfold oacs
  rcases hs with e | ⟨e1, e2⟩
  · subst e
    rw [if_pos rfl, if_pos (show obt (-1, 0, 0) c from Or.inl (by have := hc.1; show (-1 : Int) < c.1; omega)), if_neg (by have := hc.1; omega)]
  · rw [if_neg (show ¬ s.1 = -1 by omega)]
    by_cases h2 : obt s c
    · rw [if_pos h2, if_neg (show ¬ c.1 = -1 by have := hc.1; omega)]
      unfold oup
      by_cases h3 : a.2.2 = -1 ∨ obt a (opre L R S s)
      · rw [if_pos h3, if_pos (Or.inr (iff.mpr h2)), if_pos]
        rcases h3 with z | z
        · exact Or.inl z
        · right
          change (a.1 < S + s.1 ∨ (S + s.1 = a.1 ∧ L + s.2.1 < a.2.1)) at z
          show (a.1 < S + c.1 ∨ (S + c.1 = a.1 ∧ L + c.2.1 < a.2.1))
          omega
      · rw [if_neg h3]
    · rw [if_neg h2, if_neg (show ¬ s.1 = -1 by omega)]
      unfold oup
      by_cases h3 : a.2.2 = -1 ∨ obt a (opre L R S s)
      · rw [if_pos h3, if_neg (fun z => by
          rcases z with z | z
          · exact nn s e2 z
          · exact h2 (iff.mp z))]
      · rw [if_neg h3, if_neg (fun z => h3 (by
          rcases z with z | z
          · exact Or.inl z
          · right
            change (a.1 < S + c.1 ∨ (S + c.1 = a.1 ∧ L + c.2.1 < a.2.1)) at z
            show (a.1 < S + s.1 ∨ (S + s.1 = a.1 ∧ L + s.2.1 < a.2.1))
            omega))]
theorem opre_cd {L R S t : Int} {H : HvS} {r : O3} (h : 0 ≤ r.2.1) : opre (L + 1) (10 * R + t) (S + tot H.2) r = opre L R S (ocd H r t) := by
  unfold opre ocd
  dsimp only
  rw [show (r.2.1 + 1).toNat = r.2.1.toNat + 1 by omega, Int.pow_succ, Int.add_mul]
  have e : R * (10 ^ r.2.1.toNat * 10) = 10 * R * 10 ^ r.2.1.toNat := by rw [Int.mul_comm (10 ^ r.2.1.toNat) 10, ← Int.mul_assoc, Int.mul_comm R 10]
  rw [e]
  refine Prod.ext (by dsimp only; omega) (Prod.ext (by dsimp only; omega) (by dsimp only; omega))
