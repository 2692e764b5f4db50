/-! ===== WHAT A TASTE IS WORTH ===== -/
def bnd (x : Int) : Int := max (-1000000) (min 1000000 x)
def wk (c a b : Int) : Int := if c = 2 then bnd (a + b) else if c = 3 then bnd (a - b) else if c = 4 then bnd (a * b) else if c = 5 then (if b = 0 then 0 else bnd (Int.tdiv a b)) else if c = 6 then (if a = b then 1 else 0) else if c = 7 then (if a < b then 1 else 0) else if c = 8 then (if b < a then 1 else 0) else if c = 10 then (if a ≠ 0 ∧ b ≠ 0 then 1 else 0) else (if a ≠ 0 ∨ b ≠ 0 then 1 else 0)
def evT (lt : Int → Int) (s : List Int) (t : Tok) : List Int := if t.1 = 0 then t.2 :: s else if t.1 = 1 then lt t.2 :: s else if t.1 = 9 then (match s with
  | a :: r => (1 - a) :: r
  | [] => []) else (match s with
  | b :: a :: r => wk t.1 a b :: r
  | _ => [])
def evL (lt : Int → Int) : List Int → List Tok → List Int
  | s, [] => s
  | s, t :: l => evL lt (evT lt s t) l
def wth (lt : Int → Int) : List Cla → Int
  | [] => 0
  | (none, s) :: _ => (evL lt [] s).headD 0
  | (some t, s) :: r => if (evL lt [] t).headD 0 ≠ 0 then (evL lt [] s).headD 0 else wth lt r
/-- numbers in bounds; yes or no is 1 or 0 -/
def TyS : List Bool → List Int → Prop
  | [], [] => True
  | b :: r, v :: s => ((-1000000 ≤ v ∧ v ≤ 1000000) ∧ (b = true → v = 0 ∨ v = 1)) ∧ TyS r s
  | _, _ => False
theorem TyS.len : ∀ {t : List Bool} {s : List Int}, TyS t s → s.length = t.length
  | [], [], _ => rfl
  | [], _ :: _, h => h.elim
  | _ :: _, [], h => h.elim
  | b :: r, v :: s, h => by rw [List.length_cons, List.length_cons, h.2.len]
theorem chkT_cases {s s' : List Bool} {t : Tok} (h : chkT s t = some s') : (t.1 = 0 ∧ (0 ≤ t.2 ∧ t.2 ≤ 9999) ∧ s.length < 60 ∧ s' = false :: s) ∨ (t.1 = 1 ∧ (0 ≤ t.2 ∧ t.2 < 7) ∧ s.length < 60 ∧ s' = false :: s) ∨ ((2 ≤ t.1 ∧ t.1 ≤ 5) ∧ ∃ r, s = false :: false :: r ∧ s' = false :: r) ∨ ((6 ≤ t.1 ∧ t.1 ≤ 8) ∧ ∃ r, s = false :: false :: r ∧ s' = true :: r) ∨ (t.1 = 9 ∧ ∃ r, s = true :: r ∧ s' = true :: r) ∨ ((t.1 = 10 ∨ t.1 = 11) ∧ ∃ r, s = true :: true :: r ∧ s' = true :: r) := by
  unfold chkT at h
  by_cases c0 : t.1 = 0
  · rw [if_pos c0] at h
    split at h
    · rename_i q
      injection h with h
      exact Or.inl ⟨c0, ⟨q.1, q.2.1⟩, q.2.2, h.symm⟩
    · cases h
  rw [if_neg c0] at h
  by_cases c1 : t.1 = 1
  · rw [if_pos c1] at h
    split at h
    · rename_i q
      injection h with h
      exact Or.inr (Or.inl ⟨c1, ⟨q.1, q.2.1⟩, q.2.2, h.symm⟩)
    · cases h
  rw [if_neg c1] at h
  by_cases c2 : 2 ≤ t.1 ∧ t.1 ≤ 5
  · rw [if_pos c2] at h
    split at h
    · injection h with h
      exact Or.inr (Or.inr (Or.inl ⟨c2, _, rfl, h.symm⟩))
    · cases h
  rw [if_neg c2] at h
  by_cases c3 : 6 ≤ t.1 ∧ t.1 ≤ 8
  · rw [if_pos c3] at h
    split at h
    · injection h with h
      exact Or.inr (Or.inr (Or.inr (Or.inl ⟨c3, _, rfl, h.symm⟩)))
    · cases h
  rw [if_neg c3] at h
  by_cases c4 : t.1 = 9
  · rw [if_pos c4] at h
    split at h
    · injection h with h
      exact Or.inr (Or.inr (Or.inr (Or.inr (Or.inl ⟨c4, _, rfl, h.symm⟩))))
    · cases h
  rw [if_neg c4] at h
  by_cases c5 : t.1 = 10 ∨ t.1 = 11
  · rw [if_pos c5] at h
    split at h
    · injection h with h
      exact Or.inr (Or.inr (Or.inr (Or.inr (Or.inr ⟨c5, _, rfl, h.symm⟩))))
    · cases h
  rw [if_neg c5] at h
  cases h
theorem bnd_r (x : Int) : -1000000 ≤ bnd x ∧ bnd x ≤ 1000000 := by unfold bnd; omega
theorem wk_r (c a b : Int) : -1000000 ≤ wk c a b ∧ wk c a b ≤ 1000000 := by
  unfold wk
  have := bnd_r (a + b); have := bnd_r (a - b); have := bnd_r (a * b); have := bnd_r (Int.tdiv a b)
  repeat' split
  all_goals omega
theorem wk_b {c : Int} (a b : Int) (hc : (6 ≤ c ∧ c ≤ 8) ∨ c = 10 ∨ c = 11) : wk c a b = 0 ∨ wk c a b = 1 := by
  unfold wk
  rw [if_neg (by omega), if_neg (by omega), if_neg (by omega), if_neg (by omega)]
  repeat' split
  all_goals first | exact Or.inl rfl | exact Or.inr rfl
/-- each stack goes on as its kinds do -/
theorem TyS.ev {lt : Int → Int} (hl : ∀ j, 0 ≤ j → j < 7 → -1000000 ≤ lt j ∧ lt j ≤ 1000000) {ty ty' : List Bool} {s : List Int} {t : Tok} (h : TyS ty s) (hc : chkT ty t = some ty') : TyS ty' (evT lt s t) := by
  rcases chkT_cases hc with ⟨c, r, -, rfl⟩ | ⟨c, r, -, rfl⟩ | ⟨c, r, rfl, rfl⟩ | ⟨c, r, rfl, rfl⟩ | ⟨c, r, rfl, rfl⟩ | ⟨c, r, rfl, rfl⟩
  · unfold evT; rw [if_pos c]; exact ⟨⟨(by omega), fun q => by cases q⟩, h⟩
  · unfold evT; rw [if_neg (by omega), if_pos c]; exact ⟨⟨hl _ r.1 r.2, fun q => by cases q⟩, h⟩
  · match s, h with
    | b :: a :: r', h =>
      unfold evT; rw [if_neg (by omega), if_neg (by omega), if_neg (by omega)]
      exact ⟨⟨wk_r _ _ _, fun q => by cases q⟩, h.2.2⟩
  · match s, h with
    | b :: a :: r', h =>
      unfold evT; rw [if_neg (by omega), if_neg (by omega), if_neg (by omega)]
      exact ⟨⟨wk_r _ _ _, fun _ => wk_b a b (by omega)⟩, h.2.2⟩
  · match s, h with
    | a :: r', h =>
      unfold evT; rw [if_neg (by omega), if_neg (by omega), if_pos c]
      have := h.1.2 rfl
      exact ⟨⟨(by omega), fun _ => (by omega)⟩, h.2⟩
  · match s, h with
    | b :: a :: r', h =>
      unfold evT; rw [if_neg (by omega), if_neg (by omega), if_neg (by omega)]
      exact ⟨⟨wk_r _ _ _, fun _ => wk_b a b (by omega)⟩, h.2.2⟩
theorem TyS.evL' {lt : Int → Int} (hl : ∀ j, 0 ≤ j → j < 7 → -1000000 ≤ lt j ∧ lt j ≤ 1000000) : ∀ {l : List Tok} {ty ty' : List Bool} {s : List Int}, TyS ty s → chkL ty l = some ty' → TyS ty' (evL lt s l)
  | [], ty, ty', s, h, hc => by
    unfold chkL at hc; injection hc with hc; subst hc; exact h
  | t :: l, ty, ty', s, h, hc => by
    unfold chkL at hc
    cases hq : chkT ty t with
    | none => rw [hq] at hc; cases hc
    | some ty1 =>
      rw [hq] at hc
      exact TyS.evL' (l := l) hl (h.ev hl hq) (show chkL ty1 l = some ty' from hc)
/-! the stacks in rows -/
theorem lies_snoc {f : Int → Int} {l : List Int} {v : Int} (h : LiesI f 0 l) : LiesI (fu f (l.length : Int) v) 0 (l ++ [v]) := by
  intro j w hj
  by_cases q : j < l.length
  · rw [List.getElem?_append_left q] at hj
    rw [fu_ne (by show (0 : Int) + (j : Int) ≠ _; omega)]; exact h j w hj
  · rw [List.getElem?_append_right (by omega)] at hj
    have e : j - l.length = 0 := by
      have := (List.getElem?_eq_some_iff.mp hj).1
      simp at this; omega
    rw [e] at hj
    injection hj with hj
    have e2 : (0 : Int) + Int.ofNat j = (l.length : Int) := by show (0 : Int) + (j : Int) = _; omega
    rw [e2, fu_hit]; exact hj
theorem lies_pre {f : Int → Int} {l r : List Int} {n : Int} (h : LiesI f n (l ++ r)) : LiesI f n l := fun j v hj => h j v (by rw [List.getElem?_append_left (List.getElem?_eq_some_iff.mp hj).1]; exact hj)
theorem lies_suf {f : Int → Int} {l r : List Int} {n : Int} (h : LiesI f n (l ++ r)) : LiesI f (n + (l.length : Int)) r := fun j v hj => by
  have := h (l.length + j) v (by rw [List.getElem?_append_right (by omega), Nat.add_sub_cancel_left]; exact hj)
  rw [← this]; congr 1; show n + (l.length : Int) + (j : Int) = n + ((l.length + j : Nat) : Int); omega
theorem lies_last {f : Int → Int} {l : List Int} {v : Int} (h : LiesI f 0 (l ++ [v])) : f (l.length : Int) = v := by
  have := h l.length v (by rw [List.getElem?_append_right (Nat.le_refl _), Nat.sub_self]; rfl)
  rw [← this]; congr 1; show (l.length : Int) = 0 + (l.length : Int); omega
theorem lies_hd {f : Int → Int} {l : List Int} {v n : Int} (h : LiesI f n (v :: l)) : f n = v := by
  have := h 0 v rfl
  rw [← this]; congr 1; show n = n + 0; omega
theorem lies_tl {f : Int → Int} {l : List Int} {v n : Int} (h : LiesI f n (v :: l)) : LiesI f (n + 1) l := fun j w hj => by
  have := h (j + 1) w hj
  rw [← this]; congr 1; show n + 1 + (j : Int) = n + ((j + 1 : Nat) : Int); omega
theorem rev_len (s : List Int) : (s.reverse.length : Int) = (s.length : Int) := by rw [List.length_reverse]
/-- the row after a number is laid on the stack -/
theorem st_push {f : Int → Int} {s : List Int} {v : Int} (h : LiesI f 0 s.reverse) : LiesI (fu f (s.length : Int) v) 0 (v :: s).reverse := by
  rw [List.reverse_cons, ← rev_len]; exact lies_snoc h
theorem st_top {f : Int → Int} {s : List Int} {v : Int} (h : LiesI f 0 (v :: s).reverse) : f (s.length : Int) = v := by
  rw [List.reverse_cons] at h; rw [← rev_len]; exact lies_last h
theorem st_pop {f : Int → Int} {s : List Int} {v : Int} (h : LiesI f 0 (v :: s).reverse) : LiesI f 0 s.reverse := by
  rw [List.reverse_cons] at h; exact lies_pre h
theorem st_set {f : Int → Int} {s : List Int} {v w : Int} (h : LiesI f 0 (v :: s).reverse) : LiesI (fu f (s.length : Int) w) 0 (w :: s).reverse := st_push (st_pop h)
/-! one sign worked -/
theorem mul_r {a b : Int} (ha : -1000000 ≤ a ∧ a ≤ 1000000) (hb : -1000000 ≤ b ∧ b ≤ 1000000) : -1000000000000 ≤ a * b ∧ a * b ≤ 1000000000000 := by
  have h1 : 0 ≤ (1000000 - a) * (1000000 - b) := Int.mul_nonneg (by omega) (by omega)
  have h2 : 0 ≤ (1000000 + a) * (1000000 + b) := Int.mul_nonneg (by omega) (by omega)
  have h3 : 0 ≤ (1000000 - a) * (1000000 + b) := Int.mul_nonneg (by omega) (by omega)
  have h4 : 0 ≤ (1000000 + a) * (1000000 - b) := Int.mul_nonneg (by omega) (by omega)
  rw [Int.sub_mul, Int.mul_sub, Int.mul_sub] at h1
  rw [Int.add_mul, Int.mul_add, Int.mul_add] at h2
  rw [Int.sub_mul, Int.mul_add, Int.mul_add] at h3
  rw [Int.add_mul, Int.mul_sub, Int.mul_sub] at h4
  omega
theorem tdiv_r {a b : Int} (ha : -1000000 ≤ a ∧ a ≤ 1000000) : -1000000 ≤ Int.tdiv a b ∧ Int.tdiv a b ≤ 1000000 := by
  have := Int.natAbs_tdiv_le_natAbs a b
  omega
theorem joinedC {σ : Mem} (d : Nat) {c a b : Int} (hc : (2 ≤ c ∧ c ≤ 8) ∨ c = 10 ∨ c = 11) (ha : -1000000 ≤ a ∧ a ≤ 1000000) (hb : -1000000 ≤ b ∧ b ≤ 1000000) (h01 : c = 10 ∨ c = 11 → (a = 0 ∨ a = 1) ∧ (b = 0 ∨ b = 1)) {Q : RV → Mem → Prop} (h : Q (rI (wk c a b)) σ) : Cl (d + 2) mTs_joined [aI (sgn c), aI a, aI b] σ Q := by
  have hm := mul_r ha hb
  have hd := tdiv_r (b := b) ha
  have cs : c = 2 ∨ c = 3 ∨ c = 4 ∨ c = 5 ∨ c = 6 ∨ c = 7 ∨ c = 8 ∨ c = 10 ∨ c = 11 := by omega
  rcases cs with rfl | rfl | rfl | rfl | rfl | rfl | rfl | rfl | rfl
  · rw [show sgn 2 = 43 from rfl]
    refine bTs_joined_in ⟨by decide, ?_⟩
    repeat (refine ⟨fun q => absurd q (by decide), fun _ => ?_⟩)
    exact ⟨fun _ => ⟨⟨by omega, by omega⟩, ⟨by omega, by omega⟩, ⟨by omega, by omega⟩, h⟩, fun q => absurd rfl q⟩
  · rw [show sgn 3 = 45 from rfl]
    refine bTs_joined_in ⟨by decide, ?_⟩
    repeat (refine ⟨fun q => absurd q (by decide), fun _ => ?_⟩)
    exact ⟨fun _ => ⟨⟨by omega, by omega⟩, ⟨by omega, by omega⟩, ⟨by omega, by omega⟩, h⟩, fun q => absurd rfl q⟩
  · rw [show sgn 4 = 42 from rfl]
    refine bTs_joined_in ⟨by decide, ?_⟩
    repeat (refine ⟨fun q => absurd q (by decide), fun _ => ?_⟩)
    exact ⟨fun _ => ⟨⟨by omega, by omega⟩, ⟨by omega, by omega⟩, ⟨by omega, by omega⟩, ⟨by omega, by omega⟩, h⟩, fun q => absurd rfl q⟩
  · rw [show sgn 5 = 47 from rfl]
    refine bTs_joined_in ⟨by decide, ?_⟩
    repeat (refine ⟨fun q => absurd q (by decide), fun _ => ?_⟩)
    refine ⟨fun _ => bTs_joined_141 ⟨⟨by omega, by omega⟩, fun q => ⟨⟨by omega, by omega⟩, ⟨by omega, by omega⟩, ⟨by omega, by omega⟩, ⟨by omega, by omega⟩, ?_⟩, fun q => ⟨by decide, ?_⟩⟩, fun q => absurd rfl q⟩
    · have e : wk 5 a b = bnd (Int.tdiv a b) := by unfold wk; rw [if_neg (by decide), if_neg (by decide), if_neg (by decide), if_pos rfl, if_neg q]
      rw [e] at h; exact h
    · have e : wk 5 a b = 0 := by unfold wk; rw [if_neg (by decide), if_neg (by decide), if_neg (by decide), if_pos rfl, if_pos q]
      rw [e] at h; exact h
  · rw [show sgn 6 = 61 from rfl]
    have e : wk 6 a b = if a = b then 1 else 0 := rfl
    rw [e] at h
    refine bTs_joined_in ⟨by decide, ?_⟩
    repeat (refine ⟨fun q => absurd q (by decide), fun _ => ?_⟩)
    refine ⟨fun _ => ⟨⟨by omega, by omega⟩, ⟨by omega, by omega⟩, fun q => ⟨by decide, ?_⟩, fun q => ⟨by decide, ?_⟩⟩, fun q => absurd rfl q⟩
    · rw [if_neg q] at h; exact h
    · rw [if_pos q] at h; exact h
  · rw [show sgn 7 = 60 from rfl]
    have e : wk 7 a b = if a < b then 1 else 0 := rfl
    rw [e] at h
    refine bTs_joined_in ⟨by decide, ?_⟩
    repeat (refine ⟨fun q => absurd q (by decide), fun _ => ?_⟩)
    refine ⟨fun _ => ⟨⟨by omega, by omega⟩, ⟨by omega, by omega⟩, fun q => ⟨by decide, ?_⟩, fun q => ⟨by decide, ?_⟩⟩, fun q => absurd rfl q⟩
    · rw [if_neg (by omega)] at h; exact h
    · rw [if_pos q] at h; exact h
  · rw [show sgn 8 = 62 from rfl]
    have e : wk 8 a b = if b < a then 1 else 0 := rfl
    rw [e] at h
    refine bTs_joined_in ⟨by decide, ?_⟩
    repeat (refine ⟨fun q => absurd q (by decide), fun _ => ?_⟩)
    refine ⟨fun _ => ⟨⟨by omega, by omega⟩, ⟨by omega, by omega⟩, fun q => ⟨by decide, ?_⟩, fun q => ⟨by decide, ?_⟩⟩, fun q => absurd rfl q⟩
    · rw [if_neg (by omega)] at h; exact h
    · rw [if_pos q] at h; exact h
  · rw [show sgn 10 = 38 from rfl]
    obtain ⟨k1, k2⟩ := h01 (Or.inl rfl)
    refine bTs_joined_in ⟨by decide, fun _ => ?_, fun q => absurd rfl q⟩
    rcases k1 with rfl | rfl <;> rcases k2 with rfl | rfl <;> exact ⟨by decide, by decide, by decide, h⟩
  · rw [show sgn 11 = 124 from rfl]
    obtain ⟨k1, k2⟩ := h01 (Or.inr rfl)
    refine bTs_joined_in ⟨by decide, ?_⟩
    repeat (refine ⟨fun q => absurd q (by decide), fun _ => ?_⟩)
    rcases k1 with rfl | rfl <;> rcases k2 with rfl | rfl <;> exact ⟨by decide, by decide, by decide, h⟩
theorem cmpL_0 {a b : Int} : (cmpL a b = 0 ↔ a = b) ∧ (cmpL a b < 0 ↔ a < b) ∧ (0 < cmpL a b ↔ b < a) ∧ rg (cmpL a b) := by
  unfold cmpL
  by_cases h : a < b
  · rw [if_pos h]; exact ⟨⟨fun q => absurd q (by decide), fun q => absurd h (by omega)⟩, ⟨fun _ => h, fun _ => by decide⟩, ⟨fun q => absurd q (by decide), fun q => absurd h (by omega)⟩, by decide⟩
  · rw [if_neg h]
    by_cases e : a = b
    · rw [if_pos e]; exact ⟨⟨fun _ => e, fun _ => rfl⟩, ⟨fun q => absurd q (by decide), fun q => absurd q h⟩, ⟨fun q => absurd q (by decide), fun q => absurd e (by omega)⟩, by decide⟩
    · rw [if_neg e]; exact ⟨⟨fun q => absurd q (by decide), fun q => absurd q e⟩, ⟨fun q => absurd q (by decide), fun q => absurd q h⟩, ⟨fun _ => (by omega), fun _ => by decide⟩, by decide⟩
theorem workedR {σ : Mem} (d : Nat) {c a b : Int} (hc : (2 ≤ c ∧ c ≤ 8) ∨ c = 10 ∨ c = 11) (ha : -1000000 ≤ a ∧ a ≤ 1000000) (hb : -1000000 ≤ b ∧ b ≤ 1000000) {Q : RV → Mem → Prop} (h : Q (rI (wk c a b)) σ) : Cl (d + 3) mR_worked [aI c, aJ a, aJ b] σ Q := by
  have hm := mul_r ha hb
  have hd := tdiv_r (b := b) ha
  have cs : c = 2 ∨ c = 3 ∨ c = 4 ∨ c = 5 ∨ c = 6 ∨ c = 7 ∨ c = 8 ∨ c = 10 ∨ c = 11 := by omega
  obtain ⟨z1, z2, z3, z4⟩ := cmpL_0 (a := a) (b := b)
  obtain ⟨b1, b2, b3, b4⟩ := cmpL_0 (a := b) (b := 0)
  obtain ⟨a1, a2, a3, a4⟩ := cmpL_0 (a := a) (b := 0)
  rcases cs with rfl | rfl | rfl | rfl | rfl | rfl | rfl | rfl | rfl
  · refine bR_worked_in ⟨by decide, ?_⟩
    exact ⟨fun _ => ⟨⟨by omega, by omega⟩, ⟨by omega, by omega⟩, h⟩, fun q => absurd rfl q⟩
  · refine bR_worked_in ⟨by decide, ?_⟩
    repeat (refine ⟨fun q => absurd q (by decide), fun _ => ?_⟩)
    exact ⟨fun _ => ⟨⟨by omega, by omega⟩, ⟨by omega, by omega⟩, h⟩, fun q => absurd rfl q⟩
  · refine bR_worked_in ⟨by decide, ?_⟩
    repeat (refine ⟨fun q => absurd q (by decide), fun _ => ?_⟩)
    exact ⟨fun _ => ⟨⟨by omega, by omega⟩, ⟨by omega, by omega⟩, h⟩, fun q => absurd rfl q⟩
  · refine bR_worked_in ⟨by decide, ?_⟩
    repeat (refine ⟨fun q => absurd q (by decide), fun _ => ?_⟩)
    refine ⟨fun _ => ⟨⟨by omega, by omega⟩, b4, fun q => ⟨⟨by omega, by omega⟩, fun z => q (b1.mpr z), ⟨by omega, by omega⟩, ⟨by omega, by omega⟩, ?_⟩, fun q => ?_⟩, fun q => absurd rfl q⟩
    · have e : wk 5 a b = bnd (Int.tdiv a b) := by unfold wk; rw [if_neg (by decide), if_neg (by decide), if_neg (by decide), if_pos rfl, if_neg (fun z => q (b1.mpr z))]
      rw [e] at h; exact h
    · have e : wk 5 a b = 0 := by unfold wk; rw [if_neg (by decide), if_neg (by decide), if_neg (by decide), if_pos rfl, if_pos (b1.mp q)]
      rw [e] at h; exact h
  · have e : wk 6 a b = if a = b then 1 else 0 := rfl
    rw [e] at h
    refine bR_worked_in ⟨by decide, ?_⟩
    repeat (refine ⟨fun q => absurd q (by decide), fun _ => ?_⟩)
    refine ⟨fun _ => ⟨⟨by omega, by omega⟩, ⟨by omega, by omega⟩, z4, fun q => ?_, fun q => ?_⟩, fun q => absurd rfl q⟩
    · rw [if_neg (fun z => q (z1.mpr z))] at h; exact h
    · rw [if_pos (z1.mp q)] at h; exact h
  · have e : wk 7 a b = if a < b then 1 else 0 := rfl
    rw [e] at h
    refine bR_worked_in ⟨by decide, ?_⟩
    repeat (refine ⟨fun q => absurd q (by decide), fun _ => ?_⟩)
    refine ⟨fun _ => ⟨⟨by omega, by omega⟩, ⟨by omega, by omega⟩, z4, fun q => ?_, fun q => ?_⟩, fun q => absurd rfl q⟩
    · rw [if_neg (fun z => by have := z2.mpr z; omega)] at h; exact h
    · rw [if_pos (z2.mp q)] at h; exact h
  · have e : wk 8 a b = if b < a then 1 else 0 := rfl
    rw [e] at h
    refine bR_worked_in ⟨by decide, ?_⟩
    repeat (refine ⟨fun q => absurd q (by decide), fun _ => ?_⟩)
    refine ⟨fun _ => ⟨⟨by omega, by omega⟩, ⟨by omega, by omega⟩, z4, fun q => ?_, fun q => ?_⟩, fun q => absurd rfl q⟩
    · rw [if_neg (fun z => by have := z3.mpr z; omega)] at h; exact h
    · rw [if_pos (z3.mp q)] at h; exact h
  · have e : wk 10 a b = if a ≠ 0 ∧ b ≠ 0 then 1 else 0 := rfl
    rw [e] at h
    refine bR_worked_in ⟨by decide, ?_⟩
    repeat (refine ⟨fun q => absurd q (by decide), fun _ => ?_⟩)
    refine ⟨fun _ => ⟨⟨by omega, by omega⟩, a4, fun q => ?_, fun q => ⟨⟨by omega, by omega⟩, b4, fun q2 => ?_, fun q2 => ?_⟩⟩, fun q => absurd rfl q⟩
    · rw [if_neg (fun z => z.1 (a1.mp q))] at h; exact h
    · rw [if_neg (fun z => z.2 (b1.mp q2))] at h; exact h
    · rw [if_pos ⟨fun z => q (a1.mpr z), fun z => q2 (b1.mpr z)⟩] at h; exact h
  · have e : wk 11 a b = if a ≠ 0 ∨ b ≠ 0 then 1 else 0 := rfl
    rw [e] at h
    refine bR_worked_in ⟨by decide, ?_⟩
    repeat (refine ⟨fun q => absurd q (by decide), fun _ => ?_⟩)
    refine bR_worked_144 ⟨⟨by omega, by omega⟩, a4, fun q => ?_, fun q => ⟨⟨by omega, by omega⟩, b4, fun q2 => ?_, fun q2 => ?_⟩⟩
    · rw [if_pos (Or.inl (fun z => q (a1.mpr z)))] at h; exact h
    · rw [if_neg (fun z => z.elim (fun y => y (a1.mp q)) (fun y => y (b1.mp q2)))] at h; exact h
    · rw [if_pos (Or.inr (fun z => q2 (b1.mpr z)))] at h; exact h
