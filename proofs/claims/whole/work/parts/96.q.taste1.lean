/-! ===== A TASTE READ: WHAT IT IS ===== -/
abbrev RT : Type := Int ⊕ (Int × List Tok)
def opK (c : Int) : Int := if c = 43 then 2 else if c = 45 then 3 else if c = 42 then 4 else if c = 47 then 5 else if c = 61 then 6 else if c = 60 then 7 else if c = 62 then 8 else if c = 33 then 9 else if c = 38 then 10 else 11
def opT (c : Int) : List Tok := if c = 0 then [] else [(opK c, 0)]
def orT (e : Bool) : List Tok := if e = true then [(11, 0)] else []
def ltO (c : Int) : Int := if cst 9 0 = c then 0 else if cst 9 1 = c then 1 else if cst 9 2 = c then 2 else if cst 9 3 = c then 3 else if cst 9 4 = c then 4 else if cst 9 5 = c then 5 else if cst 9 6 = c then 6 else -1
theorem ltO_r (c : Int) : -1 ≤ ltO c ∧ ltO c < 7 := by
  unfold ltO
  repeat' split
  all_goals decide
abbrev cmK (c : Int) : Prop := c = 61 ∨ (c = 60 ∨ c = 62)
section
variable (B : Int → Int) (N : Int)
/-- behind a first atom; l: a + or - that waits -/
def smL (at' : Int → RT) : Nat → Int → Int → RT
  | 0, a, l => .inr (a, opT l)
  | n + 1, a, l => if hr B N (sk B N a) = 43 ∨ hr B N (sk B N a) = 45 then bnR (at' (sk B N a + 1)) (fun r => bnR (smL at' n r.1 (hr B N (sk B N a))) (fun s => .inr (s.1, opT l ++ (r.2 ++ s.2))))
    else if hr B N (sk B N a) = 42 ∨ hr B N (sk B N a) = 47 then bnR (at' (sk B N a + 1)) (fun r => bnR (smL at' n r.1 l) (fun s => .inr (s.1, r.2 ++ (opT (hr B N (sk B N a)) ++ s.2))))
    else .inr (sk B N a, opT l)
def smK (at' : Int → RT) (a : Int) : RT := bnR (at' a) (fun r => bnR (smL B N at' 241 r.1 0) (fun s => .inr (s.1, r.2 ++ s.2)))
def atG (nest : Bool) (sm : Int → RT) (a : Int) : RT :=
  if hr B N (sk B N a) = 91 then (if nest = false then .inl (sk B N a) else bnR (sm (sk B N a + 1)) (fun r => if hr B N (sk B N r.1) = 93 then .inr (sk B N r.1 + 1, r.2) else .inl (sk B N r.1)))
  else if ltO (hr B N (sk B N a)) ≠ -1 then .inr (sk B N a + 1, [(1, ltO (hr B N (sk B N a)))])
  else bnR (num B N 4 (sk B N a)) (fun r => .inr (r.1, [(0, r.2)]))
def atK : Nat → Int → RT
  | 0 => atG B N false (fun _ => .inl 0)
  | k + 1 => atG B N true (smK B N (atK k))
def cmG (sm : Int → RT) (a : Int) : RT := if cmK (hr B N (sk B N a)) then bnR (sm (sk B N a + 1)) (fun r => .inr (r.1, r.2 ++ opT (hr B N (sk B N a)))) else .inl (sk B N a)
/-- behind a first unit; e: a | waits -/
def moL (un : Int → RT) : Nat → Int → Bool → RT
  | 0, a, e => .inr (a, orT e)
  | n + 1, a, e => if hr B N (sk B N a) = 38 then bnR (un (sk B N a + 1)) (fun r => bnR (moL un n r.1 e) (fun s => .inr (s.1, r.2 ++ (opT 38 ++ s.2))))
    else if hr B N (sk B N a) = 124 then bnR (un (sk B N a + 1)) (fun r => bnR (moL un n r.1 true) (fun s => .inr (s.1, orT e ++ (r.2 ++ s.2))))
    else .inr (sk B N a, orT e)
def unG (nest : Bool) (un sm : Int → RT) (a : Int) : RT :=
  if hr B N (sk B N a) = 33 then (if nest = false then .inl (sk B N a) else bnR (un (sk B N a + 1)) (fun r => .inr (r.1, r.2 ++ opT 33)))
  else if hr B N (sk B N a) = 40 then (if nest = false then .inl (sk B N a) else bnR (un (sk B N a + 1)) (fun r => bnR (moL B N un 241 r.1 false) (fun s => if hr B N (sk B N s.1) = 41 then .inr (sk B N s.1 + 1, r.2 ++ s.2) else .inl (sk B N s.1))))
  else bnR (sm (sk B N a)) (fun r => bnR (cmG B N sm r.1) (fun s => .inr (s.1, r.2 ++ s.2)))
def unK : Nat → Int → RT
  | 0 => unG B N false (fun _ => .inl 0) (smK B N (atK B N 0))
  | k + 1 => unG B N true (unK k) (smK B N (atK B N (k + 1)))
def csq (t : List Tok) (a : Int) : Int ⊕ (Int × Cla) := if hr B N (sk B N a) = 63 then bnR (smK B N (atK B N 6) (sk B N a + 1)) (fun r => .inr (r.1, (some t, r.2))) else .inl (sk B N a)
def cla (a : Int) : Int ⊕ (Int × Cla) :=
  if hr B N (sk B N a) ≠ 121 then .inl (sk B N a) else
  if hr B N (sk B N (sk B N a + 1)) ≠ 58 then .inl (sk B N (sk B N a + 1)) else
  if hr B N (sk B N (sk B N (sk B N a + 1) + 1)) = 33 ∨ hr B N (sk B N (sk B N (sk B N a + 1) + 1)) = 40 then bnR (unK B N 6 (sk B N (sk B N (sk B N a + 1) + 1))) (fun r => bnR (moL B N (unK B N 6) 241 r.1 false) (fun s => csq B N (r.2 ++ s.2) s.1))
  else bnR (smK B N (atK B N 6) (sk B N (sk B N (sk B N a + 1) + 1))) (fun r => if cmK (hr B N (sk B N r.1)) then bnR (cmG B N (smK B N (atK B N 6)) (sk B N r.1)) (fun q => bnR (moL B N (unK B N 6) 241 q.1 false) (fun s => csq B N ((r.2 ++ q.2) ++ s.2) s.1)) else .inr (sk B N r.1, (none, r.2)))
def law : Nat → Int → Int ⊕ List Cla
  | 0, _ => .inl N
  | n + 1, a => bnR (cla B N a) (fun r => if hr B N (sk B N r.1) = -1 then .inr [r.2] else if hr B N (sk B N r.1) = 59 then bnR (law n (sk B N r.1 + 1)) (fun cs => .inr (r.2 :: cs)) else .inl (sk B N r.1))
end
theorem bnR_l {α β : Type} {x : Int ⊕ α} {k : α → Int ⊕ β} {w : Int} (h : bnR x k = .inl w) : x = .inl w ∨ ∃ r, x = .inr r ∧ k r = .inl w := by
  cases x with
  | inl v => exact Or.inl (by injection h with h; rw [h])
  | inr r => exact Or.inr ⟨r, rfl, h⟩
theorem bnR_r {α β : Type} {x : Int ⊕ α} {k : α → Int ⊕ β} {y : β} (h : bnR x k = .inr y) : ∃ r, x = .inr r ∧ k r = .inr y := by
  cases x with
  | inl v => cases h
  | inr r => exact ⟨r, rfl, h⟩
/-! where it ends, how long -/
def PosK (N : Int) (f : Int → RT) : Prop := ∀ a, 0 ≤ a → a ≤ N → (∀ w, f a = .inl w → 0 ≤ w ∧ w ≤ N) ∧ ∀ a' t, f a = .inr (a', t) → (a < a' ∧ a' ≤ N) ∧ 1 ≤ t.length ∧ a + (t.length : Int) ≤ a'
theorem opT_l (c : Int) : ((opT c).length : Int) = if c = 0 then 0 else 1 := by unfold opT; split <;> rfl
theorem orT_l (e : Bool) : ((orT e).length : Int) = if e = true then 1 else 0 := by cases e <;> rfl
theorem smL_p {B : Int → Int} {N : Int} (hB : BTp B N) {at' : Int → RT} (hat : PosK N at') : ∀ (n : Nat) (a l : Int), 0 ≤ a → a ≤ N → (∀ w, smL B N at' n a l = .inl w → 0 ≤ w ∧ w ≤ N) ∧ ∀ a' t, smL B N at' n a l = .inr (a', t) → (a ≤ a' ∧ a' ≤ N) ∧ a + (t.length : Int) ≤ a' + (if l = 0 then 0 else 1)
  | 0, a, l, a0, a1 => ⟨fun w h => (by cases h), fun a' t h => by
      injection h with h
      injection h with h1 h2
      have := opT_l l
      rw [← h1, ← h2, this]; omega⟩
  | n + 1, a, l, a0, a1 => by
    have r := (sk_r (B := B) (N := N) (a := a))
    have r2 := r.2 a1
    have b := hB.r (a := sk B N a) (by omega)
    have ol := opT_l l
    unfold smL
    by_cases c1 : hr B N (sk B N a) = 43 ∨ hr B N (sk B N a) = 45
    · rw [if_pos c1]
      have lt := (b.2.2 (by omega)).1
      obtain ⟨p1, q1⟩ := hat (sk B N a + 1) (by omega) (by omega)
      constructor
      · intro w h
        rcases bnR_l h with e | ⟨⟨b1, t1⟩, e, h⟩
        · exact p1 w e
        · have t1' := q1 b1 t1 e
          have ih := smL_p hB hat n b1 (hr B N (sk B N a)) (by omega) (by omega)
          rcases bnR_l h with e2 | ⟨s, e2, h⟩
          · exact ih.1 w e2
          · cases h
      · intro a' t h
        obtain ⟨⟨b1, t1⟩, e, h⟩ := bnR_r h
        have t1' := q1 b1 t1 e
        have ih := smL_p hB hat n b1 (hr B N (sk B N a)) (by omega) (by omega)
        obtain ⟨⟨b2, t2⟩, e2, h⟩ := bnR_r h
        have t2' := ih.2 b2 t2 e2
        injection h with h
        injection h with h1 h2
        dsimp only at h1 h2
        rw [← h1, ← h2, List.length_append, List.length_append]
        rw [if_neg (show ¬ hr B N (sk B N a) = 0 by omega)] at t2'
        refine ⟨⟨by omega, by omega⟩, ?_⟩
        push_cast
        rw [ol]
        omega
    · rw [if_neg c1]
      by_cases c2 : hr B N (sk B N a) = 42 ∨ hr B N (sk B N a) = 47
      · rw [if_pos c2]
        have lt := (b.2.2 (by omega)).1
        obtain ⟨p1, q1⟩ := hat (sk B N a + 1) (by omega) (by omega)
        have oc := opT_l (hr B N (sk B N a))
        rw [if_neg (show ¬ hr B N (sk B N a) = 0 by omega)] at oc
        constructor
        · intro w h
          rcases bnR_l h with e | ⟨⟨b1, t1⟩, e, h⟩
          · exact p1 w e
          · have t1' := q1 b1 t1 e
            have ih := smL_p hB hat n b1 l (by omega) (by omega)
            rcases bnR_l h with e2 | ⟨s, e2, h⟩
            · exact ih.1 w e2
            · cases h
        · intro a' t h
          obtain ⟨⟨b1, t1⟩, e, h⟩ := bnR_r h
          have t1' := q1 b1 t1 e
          have ih := smL_p hB hat n b1 l (by omega) (by omega)
          obtain ⟨⟨b2, t2⟩, e2, h⟩ := bnR_r h
          have t2' := ih.2 b2 t2 e2
          injection h with h
          injection h with h1 h2
          dsimp only at h1 h2
          rw [← h1, ← h2, List.length_append, List.length_append]
          refine ⟨⟨by omega, by omega⟩, ?_⟩
          push_cast
          rw [oc]
          omega
      · rw [if_neg c2]
        exact ⟨fun w h => (by cases h), fun a' t h => by
          injection h with h
          injection h with h1 h2
          rw [← h1, ← h2, ol]; omega⟩
theorem smK_p {B : Int → Int} {N : Int} (hB : BTp B N) {at' : Int → RT} (hat : PosK N at') : PosK N (smK B N at') := by
  intro a a0 a1
  obtain ⟨p1, q1⟩ := hat a a0 a1
  constructor
  · intro w h
    rcases bnR_l h with e | ⟨⟨b1, t1⟩, e, h⟩
    · exact p1 w e
    · have t1' := q1 b1 t1 e
      have ih := smL_p hB hat 241 b1 0 (by omega) (by omega)
      rcases bnR_l h with e2 | ⟨s, e2, h⟩
      · exact ih.1 w e2
      · cases h
  · intro a' t h
    obtain ⟨⟨b1, t1⟩, e, h⟩ := bnR_r h
    have t1' := q1 b1 t1 e
    have ih := smL_p hB hat 241 b1 0 (by omega) (by omega)
    obtain ⟨⟨b2, t2⟩, e2, h⟩ := bnR_r h
    have t2' := ih.2 b2 t2 e2
    injection h with h
    injection h with h1 h2
    dsimp only at h1 h2
    rw [← h1, ← h2, List.length_append]
    rw [if_pos rfl] at t2'
    exact ⟨⟨by omega, by omega⟩, (by omega), by push_cast; omega⟩
theorem atG_p {B : Int → Int} {N : Int} (hB : BTp B N) {nest : Bool} {sm : Int → RT} (hsm : nest = true → PosK N sm) : PosK N (atG B N nest sm) := by
  intro a a0 a1
  have r := (sk_r (B := B) (N := N) (a := a))
  have r2 := r.2 a1
  have b := hB.r (a := sk B N a) (by omega)
  unfold atG
  by_cases c1 : hr B N (sk B N a) = 91
  · rw [if_pos c1]
    have lt := (b.2.2 (by omega)).1
    cases nest
    · rw [if_pos rfl]
      exact ⟨fun w h => (by injection h with h; omega), fun a' t h => (by cases h)⟩
    · rw [if_neg (by decide)]
      obtain ⟨p1, q1⟩ := hsm rfl (sk B N a + 1) (by omega) (by omega)
      constructor
      · intro w h
        rcases bnR_l h with e | ⟨⟨b1, t1⟩, e, h⟩
        · exact p1 w e
        · have t1' := q1 b1 t1 e
          have r3 := (sk_r (B := B) (N := N) (a := b1))
          have r4 := r3.2 t1'.1.2
          change (if hr B N (sk B N b1) = 93 then _ else _) = _ at h
          by_cases c2 : hr B N (sk B N b1) = 93
          · rw [if_pos c2] at h; cases h
          · rw [if_neg c2] at h
            injection h with h; dsimp only at h; omega
      · intro a' t h
        obtain ⟨⟨b1, t1⟩, e, h⟩ := bnR_r h
        have t1' := q1 b1 t1 e
        have r3 := (sk_r (B := B) (N := N) (a := b1))
        have r4 := r3.2 t1'.1.2
        have b2 := hB.r (a := sk B N b1) (by omega)
        change (if hr B N (sk B N b1) = 93 then _ else _) = _ at h
        by_cases c2 : hr B N (sk B N b1) = 93
        · rw [if_pos c2] at h
          injection h with h
          injection h with h1 h2
          have := (b2.2.2 (by omega)).1
          dsimp only at h1 h2
          rw [← h1, ← h2]
          exact ⟨⟨by omega, by omega⟩, (by omega), (by omega)⟩
        · rw [if_neg c2] at h; cases h
  · rw [if_neg c1]
    by_cases c2 : ltO (hr B N (sk B N a)) ≠ -1
    · rw [if_pos c2]
      have lt : sk B N a < N := by
        by_cases c3 : hr B N (sk B N a) = -1
        · exact absurd (by rw [c3]; rfl) c2
        · exact (b.2.2 c3).1
      exact ⟨fun w h => (by cases h), fun a' t h => by
        injection h with h
        injection h with h1 h2
        rw [← h1, ← h2]
        exact ⟨⟨by omega, by omega⟩, Nat.le_refl _, by show a + 1 ≤ _; omega⟩⟩
    · rw [if_neg c2]
      obtain ⟨p1, q1⟩ := num_r hB (n := 4) (a := sk B N a) ⟨by omega, by omega⟩
      constructor
      · intro w h
        rcases bnR_l h with e | ⟨s, e, h⟩
        · exact p1 w e
        · cases h
      · intro a' t h
        obtain ⟨⟨b1, v1⟩, e, h⟩ := bnR_r h
        have t1' := q1 b1 v1 e
        injection h with h
        injection h with h1 h2
        dsimp only at h1 h2
        rw [← h1, ← h2]
        exact ⟨⟨by omega, by omega⟩, Nat.le_refl _, by show a + 1 ≤ _; omega⟩
theorem atK_p {B : Int → Int} {N : Int} (hB : BTp B N) : ∀ k : Nat, PosK N (atK B N k)
  | 0 => atG_p hB (fun h => by cases h)
  | k + 1 => atG_p hB (fun _ => smK_p hB (atK_p hB k))
theorem sm_p {B : Int → Int} {N : Int} (hB : BTp B N) (k : Nat) : PosK N (smK B N (atK B N k)) := smK_p hB (atK_p hB k)
theorem cmG_p {B : Int → Int} {N : Int} (hB : BTp B N) {sm : Int → RT} (hsm : PosK N sm) : PosK N (cmG B N sm) := by
  intro a a0 a1
  have r := (sk_r (B := B) (N := N) (a := a))
  have r2 := r.2 a1
  have b := hB.r (a := sk B N a) (by omega)
  unfold cmG
  by_cases c1 : cmK (hr B N (sk B N a))
  · rw [if_pos c1]
    have lt := (b.2.2 (by omega)).1
    have oc := opT_l (hr B N (sk B N a))
    rw [if_neg (show ¬ hr B N (sk B N a) = 0 by omega)] at oc
    obtain ⟨p1, q1⟩ := hsm (sk B N a + 1) (by omega) (by omega)
    constructor
    · intro w h
      rcases bnR_l h with e | ⟨s, e, h⟩
      · exact p1 w e
      · cases h
    · intro a' t h
      obtain ⟨⟨b1, t1⟩, e, h⟩ := bnR_r h
      have t1' := q1 b1 t1 e
      injection h with h
      injection h with h1 h2
      dsimp only at h1 h2
      rw [← h1, ← h2, List.length_append]
      exact ⟨⟨by omega, by omega⟩, (by omega), by push_cast; omega⟩
  · rw [if_neg c1]
    exact ⟨fun w h => (by injection h with h; omega), fun a' t h => (by cases h)⟩
theorem moL_p {B : Int → Int} {N : Int} (hB : BTp B N) {un : Int → RT} (hun : PosK N un) : ∀ (n : Nat) (a : Int) (e : Bool), 0 ≤ a → a ≤ N → (∀ w, moL B N un n a e = .inl w → 0 ≤ w ∧ w ≤ N) ∧ ∀ a' t, moL B N un n a e = .inr (a', t) → (a ≤ a' ∧ a' ≤ N) ∧ a + (t.length : Int) ≤ a' + (if e = true then 1 else 0)
  | 0, a, e, a0, a1 => ⟨fun w h => (by cases h), fun a' t h => by
      injection h with h
      injection h with h1 h2
      have := orT_l e
      rw [← h1, ← h2, this]; omega⟩
  | n + 1, a, l, a0, a1 => by
    have r := (sk_r (B := B) (N := N) (a := a))
    have r2 := r.2 a1
    have b := hB.r (a := sk B N a) (by omega)
    have ol := orT_l l
    unfold moL
    by_cases c1 : hr B N (sk B N a) = 38
    · rw [if_pos c1]
      have lt := (b.2.2 (by omega)).1
      have o38 : ((opT 38).length : Int) = 1 := rfl
      obtain ⟨p1, q1⟩ := hun (sk B N a + 1) (by omega) (by omega)
      constructor
      · intro w h
        rcases bnR_l h with e | ⟨⟨b1, t1⟩, e, h⟩
        · exact p1 w e
        · have t1' := q1 b1 t1 e
          have ih := moL_p hB hun n b1 l (by omega) (by omega)
          rcases bnR_l h with e2 | ⟨s, e2, h⟩
          · exact ih.1 w e2
          · cases h
      · intro a' t h
        obtain ⟨⟨b1, t1⟩, e, h⟩ := bnR_r h
        have t1' := q1 b1 t1 e
        have ih := moL_p hB hun n b1 l (by omega) (by omega)
        obtain ⟨⟨b2, t2⟩, e2, h⟩ := bnR_r h
        have t2' := ih.2 b2 t2 e2
        injection h with h
        injection h with h1 h2
        dsimp only at h1 h2
        rw [← h1, ← h2, List.length_append, List.length_append]
        refine ⟨⟨by omega, by omega⟩, ?_⟩
        push_cast
        rw [o38]
        omega
    · rw [if_neg c1]
      by_cases c2 : hr B N (sk B N a) = 124
      · rw [if_pos c2]
        have lt := (b.2.2 (by omega)).1
        obtain ⟨p1, q1⟩ := hun (sk B N a + 1) (by omega) (by omega)
        constructor
        · intro w h
          rcases bnR_l h with e | ⟨⟨b1, t1⟩, e, h⟩
          · exact p1 w e
          · have t1' := q1 b1 t1 e
            have ih := moL_p hB hun n b1 true (by omega) (by omega)
            rcases bnR_l h with e2 | ⟨s, e2, h⟩
            · exact ih.1 w e2
            · cases h
        · intro a' t h
          obtain ⟨⟨b1, t1⟩, e, h⟩ := bnR_r h
          have t1' := q1 b1 t1 e
          have ih := moL_p hB hun n b1 true (by omega) (by omega)
          obtain ⟨⟨b2, t2⟩, e2, h⟩ := bnR_r h
          have t2' := ih.2 b2 t2 e2
          injection h with h
          injection h with h1 h2
          dsimp only at h1 h2
          rw [← h1, ← h2, List.length_append, List.length_append]
          rw [if_pos rfl] at t2'
          refine ⟨⟨by omega, by omega⟩, ?_⟩
          push_cast
          rw [ol]
          omega
      · rw [if_neg c2]
        exact ⟨fun w h => (by cases h), fun a' t h => by
          injection h with h
          injection h with h1 h2
          rw [← h1, ← h2, ol]; omega⟩
theorem unG_p {B : Int → Int} {N : Int} (hB : BTp B N) {nest : Bool} {un sm : Int → RT} (hun : nest = true → PosK N un) (hsm : PosK N sm) : PosK N (unG B N nest un sm) := by
  intro a a0 a1
  have r := (sk_r (B := B) (N := N) (a := a))
  have r2 := r.2 a1
  have b := hB.r (a := sk B N a) (by omega)
  unfold unG
  by_cases c1 : hr B N (sk B N a) = 33
  · rw [if_pos c1]
    have lt := (b.2.2 (by omega)).1
    cases nest
    · rw [if_pos rfl]
      exact ⟨fun w h => (by injection h with h; omega), fun a' t h => (by cases h)⟩
    · rw [if_neg (by decide)]
      obtain ⟨p1, q1⟩ := hun rfl (sk B N a + 1) (by omega) (by omega)
      constructor
      · intro w h
        rcases bnR_l h with e | ⟨s, e, h⟩
        · exact p1 w e
        · cases h
      · intro a' t h
        obtain ⟨⟨b1, t1⟩, e, h⟩ := bnR_r h
        have t1' := q1 b1 t1 e
        have o33 : (opT 33).length = 1 := rfl
        injection h with h
        injection h with h1 h2
        dsimp only at h1 h2
        rw [← h1, ← h2, List.length_append, o33]
        exact ⟨⟨by omega, by omega⟩, (by omega), by push_cast; omega⟩
  · rw [if_neg c1]
    by_cases c2 : hr B N (sk B N a) = 40
    · rw [if_pos c2]
      have lt := (b.2.2 (by omega)).1
      cases nest
      · rw [if_pos rfl]
        exact ⟨fun w h => (by injection h with h; omega), fun a' t h => (by cases h)⟩
      · rw [if_neg (by decide)]
        obtain ⟨p1, q1⟩ := hun rfl (sk B N a + 1) (by omega) (by omega)
        constructor
        · intro w h
          rcases bnR_l h with e | ⟨⟨b1, t1⟩, e, h⟩
          · exact p1 w e
          · have t1' := q1 b1 t1 e
            have ih := moL_p hB (hun rfl) 241 b1 false (by omega) (by omega)
            rcases bnR_l h with e2 | ⟨⟨b2, t2⟩, e2, h⟩
            · exact ih.1 w e2
            · have t2' := ih.2 b2 t2 e2
              have r3 := (sk_r (B := B) (N := N) (a := b2))
              have r4 := r3.2 t2'.1.2
              change (if hr B N (sk B N b2) = 41 then _ else _) = _ at h
              by_cases c3 : hr B N (sk B N b2) = 41
              · rw [if_pos c3] at h; cases h
              · rw [if_neg c3] at h
                injection h with h; dsimp only at h; omega
        · intro a' t h
          obtain ⟨⟨b1, t1⟩, e, h⟩ := bnR_r h
          have t1' := q1 b1 t1 e
          have ih := moL_p hB (hun rfl) 241 b1 false (by omega) (by omega)
          obtain ⟨⟨b2, t2⟩, e2, h⟩ := bnR_r h
          have t2' := ih.2 b2 t2 e2
          have r3 := (sk_r (B := B) (N := N) (a := b2))
          have r4 := r3.2 t2'.1.2
          have b3 := hB.r (a := sk B N b2) (by omega)
          change (if hr B N (sk B N b2) = 41 then _ else _) = _ at h
          by_cases c3 : hr B N (sk B N b2) = 41
          · rw [if_pos c3] at h
            injection h with h
            injection h with h1 h2
            have := (b3.2.2 (by omega)).1
            dsimp only at h1 h2
            rw [if_neg (by decide)] at t2'
            rw [← h1, ← h2, List.length_append]
            exact ⟨⟨by omega, by omega⟩, (by omega), by push_cast; omega⟩
          · rw [if_neg c3] at h; cases h
    · rw [if_neg c2]
      obtain ⟨p1, q1⟩ := hsm (sk B N a) (by omega) r2
      constructor
      · intro w h
        rcases bnR_l h with e | ⟨⟨b1, t1⟩, e, h⟩
        · exact p1 w e
        · have t1' := q1 b1 t1 e
          obtain ⟨p2, q2⟩ := cmG_p hB hsm b1 (by omega) (by omega)
          rcases bnR_l h with e2 | ⟨s, e2, h⟩
          · exact p2 w e2
          · cases h
      · intro a' t h
        obtain ⟨⟨b1, t1⟩, e, h⟩ := bnR_r h
        have t1' := q1 b1 t1 e
        obtain ⟨p2, q2⟩ := cmG_p hB hsm b1 (by omega) (by omega)
        obtain ⟨⟨b2, t2⟩, e2, h⟩ := bnR_r h
        have t2' := q2 b2 t2 e2
        injection h with h
        injection h with h1 h2
        dsimp only at h1 h2
        rw [← h1, ← h2, List.length_append]
        exact ⟨⟨by omega, by omega⟩, (by omega), by push_cast; omega⟩
theorem unK_p {B : Int → Int} {N : Int} (hB : BTp B N) : ∀ k : Nat, PosK N (unK B N k)
  | 0 => unG_p hB (fun h => by cases h) (sm_p hB 0)
  | k + 1 => unG_p hB (fun _ => unK_p hB k) (sm_p hB (k + 1))
theorem sk_sk {B : Int → Int} {N a : Int} : sk B N (sk B N a) = sk B N a := sk_id sk_n
theorem csq_p {B : Int → Int} {N : Int} (hB : BTp B N) (t : List Tok) {a : Int} (a0 : 0 ≤ a) (a1 : a ≤ N) : (∀ w, csq B N t a = .inl w → 0 ≤ w ∧ w ≤ N) ∧ ∀ a' c, csq B N t a = .inr (a', c) → (a < a' ∧ a' ≤ N) ∧ ∃ s : List Tok, c = (some t, s) ∧ a + ((s.length : Int) + 1) ≤ a' := by
  have r := (sk_r (B := B) (N := N) (a := a))
  have r2 := r.2 a1
  have b := hB.r (a := sk B N a) (by omega)
  unfold csq
  by_cases c1 : hr B N (sk B N a) = 63
  · rw [if_pos c1]
    have lt := (b.2.2 (by omega)).1
    obtain ⟨p1, q1⟩ := sm_p hB 6 (sk B N a + 1) (by omega) (by omega)
    constructor
    · intro w h
      rcases bnR_l h with e | ⟨s, e, h⟩
      · exact p1 w e
      · cases h
    · intro a' c h
      obtain ⟨⟨b1, t1⟩, e, h⟩ := bnR_r h
      have t1' := q1 b1 t1 e
      injection h with h
      injection h with h1 h2
      dsimp only at h1 h2
      rw [← h1]
      exact ⟨⟨by omega, by omega⟩, t1, h2.symm, (by omega)⟩
  · rw [if_neg c1]
    exact ⟨fun w h => (by injection h with h; omega), fun a' t h => (by cases h)⟩
theorem cla_p {B : Int → Int} {N : Int} (hB : BTp B N) {a : Int} (a0 : 0 ≤ a) (a1 : a ≤ N) : (∀ w, cla B N a = .inl w → 0 ≤ w ∧ w ≤ N) ∧ ∀ a' c, cla B N a = .inr (a', c) → (a + 2 ≤ a' ∧ a' ≤ N) ∧ a + ((clC c).length : Int) ≤ a' ∧ (clM c).length ≤ (clC c).length := by
  have r := (sk_r (B := B) (N := N) (a := a))
  have r2 := r.2 a1
  have b := hB.r (a := sk B N a) (by omega)
  unfold cla
  by_cases c1 : hr B N (sk B N a) ≠ 121
  · rw [if_pos c1]
    exact ⟨fun w h => (by injection h with h; omega), fun a' t h => (by cases h)⟩
  · rw [if_neg c1]
    have lt := (b.2.2 (by omega)).1
    have s := (sk_r (B := B) (N := N) (a := sk B N a + 1))
    have s2 := s.2 (by omega)
    have b2 := hB.r (a := sk B N (sk B N a + 1)) (by omega)
    generalize sk B N a = A at *
    by_cases c2 : hr B N (sk B N (A + 1)) ≠ 58
    · rw [if_pos c2]
      exact ⟨fun w h => (by injection h with h; omega), fun a' t h => (by cases h)⟩
    · rw [if_neg c2]
      have lt2 := (b2.2.2 (by omega)).1
      generalize sk B N (A + 1) = A2 at *
      have u := (sk_r (B := B) (N := N) (a := A2 + 1))
      have u2 := u.2 (by omega)
      generalize sk B N (A2 + 1) = A3 at *
      -- a condition's clause
      have fin : ∀ (t : List Tok) (a4 : Int), 0 ≤ a4 → a4 ≤ N → A3 + (t.length : Int) ≤ a4 → (∀ w, csq B N t a4 = .inl w → 0 ≤ w ∧ w ≤ N) ∧ ∀ a' c, csq B N t a4 = .inr (a', c) → (a + 2 ≤ a' ∧ a' ≤ N) ∧ a + ((clC c).length : Int) ≤ a' ∧ (clM c).length ≤ (clC c).length := by
        intro t a4 p0 p1 ht
        obtain ⟨x, y⟩ := csq_p hB t p0 p1
        refine ⟨x, fun a' c h => ?_⟩
        obtain ⟨y1, s, rfl, y3⟩ := y a' c h
        have e1 : (clC (some t, s)).length = t.length + 1 + s.length + 1 := by
          show (t.map tokC ++ [-63] ++ s.map tokC ++ [-59]).length = _
          rw [List.length_append, List.length_append, List.length_append, List.length_map, List.length_map]
          rfl
        have e2 : (clM (some t, s)).length = t.length + s.length := List.length_append
        rw [e1, e2]
        exact ⟨⟨by omega, by omega⟩, by push_cast; omega, (by omega)⟩
      have mo := moL_p hB (unK_p hB 6) 241
      by_cases c3 : hr B N A3 = 33 ∨ hr B N A3 = 40
      · rw [if_pos c3]
        obtain ⟨p1, q1⟩ := unK_p hB 6 A3 (by omega) u2
        constructor
        · intro w h
          rcases bnR_l h with e | ⟨⟨b1, t1⟩, e, h⟩
          · exact p1 w e
          · have t1' := q1 b1 t1 e
            have ih := mo b1 false (by omega) (by omega)
            rcases bnR_l h with e2 | ⟨⟨b2, t2⟩, e2, h⟩
            · exact ih.1 w e2
            · have t2' := ih.2 b2 t2 e2
              rw [if_neg (by decide)] at t2'
              exact (fin (t1 ++ t2) b2 (by omega) (by omega) (by rw [List.length_append]; push_cast; omega)).1 w h
        · intro a' c h
          obtain ⟨⟨b1, t1⟩, e, h⟩ := bnR_r h
          have t1' := q1 b1 t1 e
          have ih := mo b1 false (by omega) (by omega)
          obtain ⟨⟨b2, t2⟩, e2, h⟩ := bnR_r h
          have t2' := ih.2 b2 t2 e2
          rw [if_neg (by decide)] at t2'
          exact (fin (t1 ++ t2) b2 (by omega) (by omega) (by rw [List.length_append]; push_cast; omega)).2 a' c h
      · rw [if_neg c3]
        obtain ⟨p1, q1⟩ := sm_p hB 6 A3 (by omega) u2
        constructor
        · intro w h
          rcases bnR_l h with e | ⟨⟨b1, t1⟩, e, h⟩
          · exact p1 w e
          · have t1' := q1 b1 t1 e
            have r3 := (sk_r (B := B) (N := N) (a := b1))
            have r4 := r3.2 t1'.1.2
            change (if cmK (hr B N (sk B N b1)) then _ else _) = _ at h
            by_cases c4 : cmK (hr B N (sk B N b1))
            · rw [if_pos c4] at h
              obtain ⟨p2, q2⟩ := cmG_p hB (sm_p hB 6) (sk B N b1) (by omega) r4
              rcases bnR_l h with e2 | ⟨⟨b2, t2⟩, e2, h⟩
              · exact p2 w e2
              · have t2' := q2 b2 t2 e2
                have ih := mo b2 false (by omega) (by omega)
                rcases bnR_l h with e3 | ⟨⟨b3, t3⟩, e3, h⟩
                · exact ih.1 w e3
                · have t3' := ih.2 b3 t3 e3
                  rw [if_neg (by decide)] at t3'
                  exact (fin ((t1 ++ t2) ++ t3) b3 (by omega) (by omega) (by rw [List.length_append, List.length_append]; push_cast; omega)).1 w h
            · rw [if_neg c4] at h; cases h
        · intro a' c h
          obtain ⟨⟨b1, t1⟩, e, h⟩ := bnR_r h
          have t1' := q1 b1 t1 e
          have r3 := (sk_r (B := B) (N := N) (a := b1))
          have r4 := r3.2 t1'.1.2
          change (if cmK (hr B N (sk B N b1)) then _ else _) = _ at h
          by_cases c4 : cmK (hr B N (sk B N b1))
          · rw [if_pos c4] at h
            obtain ⟨p2, q2⟩ := cmG_p hB (sm_p hB 6) (sk B N b1) (by omega) r4
            obtain ⟨⟨b2, t2⟩, e2, h⟩ := bnR_r h
            have t2' := q2 b2 t2 e2
            have ih := mo b2 false (by omega) (by omega)
            obtain ⟨⟨b3, t3⟩, e3, h⟩ := bnR_r h
            have t3' := ih.2 b3 t3 e3
            rw [if_neg (by decide)] at t3'
            exact (fin ((t1 ++ t2) ++ t3) b3 (by omega) (by omega) (by rw [List.length_append, List.length_append]; push_cast; omega)).2 a' c h
          · rw [if_neg c4] at h
            injection h with h
            injection h with h1 h2
            dsimp only at h1 h2
            rw [← h1, ← h2]
            have e1 : (clC (none, t1)).length = t1.length + 1 := by
              show (t1.map tokC ++ [-59]).length = _
              rw [List.length_append, List.length_map]
              rfl
            rw [e1]
            exact ⟨⟨by omega, by omega⟩, by push_cast; omega, Nat.le_succ _⟩
theorem law_p {B : Int → Int} {N : Int} (hB : BTp B N) : ∀ (n : Nat) (a : Int), 0 ≤ a → a ≤ N → (∀ w, law B N n a = .inl w → 0 ≤ w ∧ w ≤ N) ∧ ∀ cs, law B N n a = .inr cs → a + 2 * (cs.length : Int) ≤ N ∧ a + ((cs.flatMap clC).length : Int) ≤ N ∧ (cs.flatMap clM).length ≤ (cs.flatMap clC).length
  | 0, a, a0, a1 => by
    have hN := hB.1
    exact ⟨fun w h => (by injection h with h; omega), fun cs h => (by cases h)⟩
  | n + 1, a, a0, a1 => by
    obtain ⟨p1, q1⟩ := cla_p hB a0 a1
    unfold law
    constructor
    · intro w h
      rcases bnR_l h with e | ⟨⟨b1, c1⟩, e, h⟩
      · exact p1 w e
      · have t1' := q1 b1 c1 e
        have r3 := (sk_r (B := B) (N := N) (a := b1))
        have r4 := r3.2 t1'.1.2
        have b := hB.r (a := sk B N b1) (by omega)
        change (if hr B N (sk B N b1) = -1 then _ else if hr B N (sk B N b1) = 59 then _ else _) = _ at h
        by_cases c2 : hr B N (sk B N b1) = -1
        · rw [if_pos c2] at h; cases h
        · rw [if_neg c2] at h
          by_cases c3 : hr B N (sk B N b1) = 59
          · rw [if_pos c3] at h
            have lt := (b.2.2 c2).1
            have ih := law_p hB n (sk B N b1 + 1) (by omega) (by omega)
            rcases bnR_l h with e2 | ⟨s, e2, h⟩
            · exact ih.1 w e2
            · cases h
          · rw [if_neg c3] at h
            injection h with h; dsimp only at h; omega
    · intro cs h
      obtain ⟨⟨b1, c1⟩, e, h⟩ := bnR_r h
      have t1' := q1 b1 c1 e
      have r3 := (sk_r (B := B) (N := N) (a := b1))
      have r4 := r3.2 t1'.1.2
      have b := hB.r (a := sk B N b1) (by omega)
      change (if hr B N (sk B N b1) = -1 then _ else if hr B N (sk B N b1) = 59 then _ else _) = _ at h
      by_cases c2 : hr B N (sk B N b1) = -1
      · rw [if_pos c2] at h
        injection h with h
        rw [← h]
        have e1 : (List.flatMap clC [c1]) = clC c1 := by rw [List.flatMap_cons, List.flatMap_nil, List.append_nil]
        have e2 : (List.flatMap clM [c1]) = clM c1 := by rw [List.flatMap_cons, List.flatMap_nil, List.append_nil]
        rw [e1, e2]
        exact ⟨by show a + 2 * (1 : Int) ≤ N; omega, (by omega), t1'.2.2⟩
      · rw [if_neg c2] at h
        by_cases c3 : hr B N (sk B N b1) = 59
        · rw [if_pos c3] at h
          have lt := (b.2.2 c2).1
          have ih := law_p hB n (sk B N b1 + 1) (by omega) (by omega)
          obtain ⟨cs2, e2, h⟩ := bnR_r h
          have ih2 := ih.2 cs2 e2
          injection h with h
          dsimp only at h
          have i1 := ih2.2.2
          have i2 := t1'.2.2
          rw [← h, List.flatMap_cons, List.flatMap_cons, List.length_append, List.length_append, List.length_cons]
          exact ⟨by push_cast; omega, by push_cast; omega, (by omega)⟩
        · rw [if_neg c3] at h; cases h
