/-! ===== A TASTE READ CAN BE WORKED OUT ===== -/
theorem chkL_app : ∀ (l r : List Tok) (s : List Bool), chkL s (l ++ r) = (chkL s l).bind (fun s' => chkL s' r)
  | [], r, s => rfl
  | t :: l, r, s => by
    show (chkT s t).bind (fun s' => chkL s' (l ++ r)) = ((chkT s t).bind (fun s' => chkL s' l)).bind _
    cases chkT s t with
    | none => rfl
    | some s' => exact chkL_app l r s'
theorem chkL_ap {l r : List Tok} {s s1 s2 : List Bool} (h : chkL s l = some s1) (g : chkL s1 r = some s2) : chkL s (l ++ r) = some s2 := by
  rw [chkL_app, h]; exact g
def OkK (N : Int) (h : Nat) (b : Bool) (f : Int → RT) : Prop := ∀ a, 0 ≤ a → a ≤ N → ∀ a' t, f a = .inr (a', t) → ∀ s : List Bool, s.length + h ≤ 60 → chkL s t = some (b :: s)
theorem op_ok {l : Int} (hl : l = 43 ∨ l = 45 ∨ l = 42 ∨ l = 47) (s : List Bool) : chkL (false :: false :: s) (opT l) = some (false :: s) := by
  rcases hl with e | e | e | e <;> subst e <;> rfl
abbrev stS (l : Int) (s : List Bool) : List Bool := if l = 0 then false :: s else false :: false :: s
theorem opw_ok {l : Int} (hl : l = 0 ∨ l = 43 ∨ l = 45) (s : List Bool) : chkL (stS l s) (opT l) = some (false :: s) := by
  rcases hl with e | e | e <;> subst e <;> rfl
theorem stS_l (l : Int) (s : List Bool) : (stS l s).length ≤ s.length + 2 := by
  unfold stS
  split
  · rw [List.length_cons]; omega
  · rw [List.length_cons, List.length_cons]; omega
theorem stS_c (l : Int) (s : List Bool) : ∃ s', stS l s = false :: s' := by
  unfold stS
  split
  · exact ⟨_, rfl⟩
  · exact ⟨_, rfl⟩
theorem smL_ok {B : Int → Int} {N : Int} (hB : BTp B N) {h : Nat} {at' : Int → RT} (hat : PosK N at') (hok : OkK N h false at') : ∀ (n : Nat) (a l : Int), 0 ≤ a → a ≤ N → (l = 0 ∨ l = 43 ∨ l = 45) → ∀ a' t, smL B N at' n a l = .inr (a', t) → ∀ s : List Bool, s.length + (h + 2) ≤ 60 → chkL (stS l s) t = some (false :: s)
  | 0, a, l, a0, a1, hl, a', t, e, s, hs => by
    injection e with e
    injection e with e1 e2
    rw [← e2]; exact opw_ok hl s
  | n + 1, a, l, a0, a1, hl, a', t, e, s, hs => by
    have r := (sk_r (B := B) (N := N) (a := a))
    have r2 := r.2 a1
    have b := hB.r (a := sk B N a) (by omega)
    unfold smL at e
    by_cases c1 : hr B N (sk B N a) = 43 ∨ hr B N (sk B N a) = 45
    · rw [if_pos c1] at e
      have lt := (b.2.2 (by omega)).1
      obtain ⟨-, q1⟩ := hat (sk B N a + 1) (by omega) (by omega)
      obtain ⟨⟨b1, t1⟩, e1, e⟩ := bnR_r e
      have t1' := q1 b1 t1 e1
      obtain ⟨⟨b2, t2⟩, e2, e⟩ := bnR_r e
      have ih := smL_ok hB hat hok n b1 _ (by omega) (by omega) (Or.inr c1) b2 t2 e2 s hs
      injection e with e
      injection e with e3 e4
      rw [← e4]
      refine chkL_ap (opw_ok hl s) (chkL_ap (hok _ (by omega) (by omega) b1 t1 e1 (false :: s) (by rw [List.length_cons]; omega)) ?_)
      have : stS (hr B N (sk B N a)) s = false :: false :: s := if_neg (by omega)
      rw [this] at ih
      exact ih
    · rw [if_neg c1] at e
      by_cases c2 : hr B N (sk B N a) = 42 ∨ hr B N (sk B N a) = 47
      · rw [if_pos c2] at e
        have lt := (b.2.2 (by omega)).1
        obtain ⟨-, q1⟩ := hat (sk B N a + 1) (by omega) (by omega)
        obtain ⟨⟨b1, t1⟩, e1, e⟩ := bnR_r e
        have t1' := q1 b1 t1 e1
        obtain ⟨⟨b2, t2⟩, e2, e⟩ := bnR_r e
        have ih := smL_ok hB hat hok n b1 l (by omega) (by omega) hl b2 t2 e2 s hs
        injection e with e
        injection e with e3 e4
        rw [← e4]
        have sl := stS_l l s
        obtain ⟨s', es⟩ := stS_c l s
        refine chkL_ap (hok _ (by omega) (by omega) b1 t1 e1 (stS l s) (by omega)) (chkL_ap (s1 := stS l s) ?_ ih)
        rw [es]
        exact op_ok (Or.inr (Or.inr c2)) s'
      · rw [if_neg c2] at e
        injection e with e
        injection e with e3 e4
        rw [← e4]; exact opw_ok hl s
theorem smK_ok {B : Int → Int} {N : Int} (hB : BTp B N) {h : Nat} {at' : Int → RT} (hat : PosK N at') (hok : OkK N h false at') : OkK N (h + 2) false (smK B N at') := by
  intro a a0 a1 a' t e s hs
  unfold smK at e
  obtain ⟨-, q1⟩ := hat a a0 a1
  obtain ⟨⟨b1, t1⟩, e1, e⟩ := bnR_r e
  have t1' := q1 b1 t1 e1
  obtain ⟨⟨b2, t2⟩, e2, e⟩ := bnR_r e
  injection e with e
  injection e with e3 e4
  rw [← e4]
  exact chkL_ap (hok a a0 a1 b1 t1 e1 s (by omega)) (smL_ok hB hat hok 241 b1 0 (by omega) (by omega) (Or.inl rfl) b2 t2 e2 s hs)
theorem atG_ok {B : Int → Int} {N : Int} (hB : BTp B N) {h : Nat} {nest : Bool} {sm : Int → RT} (h1 : 1 ≤ h) (hok : nest = true → OkK N h false sm) : OkK N h false (atG B N nest sm) := by
  intro a a0 a1 a' t e s hs
  have r := (sk_r (B := B) (N := N) (a := a))
  have r2 := r.2 a1
  have b := hB.r (a := sk B N a) (by omega)
  unfold atG at e
  by_cases c1 : hr B N (sk B N a) = 91
  · rw [if_pos c1] at e
    have lt := (b.2.2 (by omega)).1
    cases nest
    · rw [if_pos rfl] at e; cases e
    · rw [if_neg (by decide)] at e
      obtain ⟨⟨b1, t1⟩, e1, e⟩ := bnR_r e
      change (if hr B N (sk B N b1) = 93 then _ else _) = _ at e
      by_cases c2 : hr B N (sk B N b1) = 93
      · rw [if_pos c2] at e
        injection e with e
        injection e with e3 e4
        rw [← e4]
        exact hok rfl _ (by omega) (by omega) b1 t1 e1 s hs
      · rw [if_neg c2] at e; cases e
  · rw [if_neg c1] at e
    have lr := ltO_r (hr B N (sk B N a))
    by_cases c2 : ltO (hr B N (sk B N a)) ≠ -1
    · rw [if_pos c2] at e
      injection e with e
      injection e with e3 e4
      rw [← e4]
      show (chkT s (1, ltO (hr B N (sk B N a)))).bind (fun s' => some s') = _
      have : chkT s (1, ltO (hr B N (sk B N a))) = some (false :: s) := by
        unfold chkT
        rw [if_neg (show ¬ (1 : Int) = 0 by decide), if_pos (show (1 : Int) = 1 from rfl), if_pos ⟨by show 0 ≤ ltO _; omega, lr.2, (by omega)⟩]
      rw [this]; rfl
    · rw [if_neg c2] at e
      obtain ⟨⟨b1, v⟩, e1, e⟩ := bnR_r e
      obtain ⟨-, q⟩ := num_r hB (n := 4) (a := sk B N a) ⟨(by omega), r2⟩
      have q' := (q b1 v e1).2
      injection e with e
      injection e with e3 e4
      rw [← e4]
      show (chkT s (0, v)).bind (fun s' => some s') = _
      have : chkT s (0, v) = some (false :: s) := by
        unfold chkT
        rw [if_pos (show (0 : Int) = 0 from rfl), if_pos ⟨q'.1, by show v ≤ 9999; omega, (by omega)⟩]
      rw [this]; rfl
theorem OkK.mono {N : Int} {h h' : Nat} {b : Bool} {f : Int → RT} (g : OkK N h b f) (hh : h ≤ h') : OkK N h' b f := fun a a0 a1 a' t e s hs => g a a0 a1 a' t e s (by omega)
theorem atK_ok {B : Int → Int} {N : Int} (hB : BTp B N) : ∀ k : Nat, OkK N (1 + 2 * k) false (atK B N k)
  | 0 => atG_ok hB (by decide) (fun z => by cases z)
  | k + 1 => atG_ok hB (by omega) (fun _ => (smK_ok hB (atK_p hB k) (atK_ok hB k)).mono (by omega))
theorem sm_ok {B : Int → Int} {N : Int} (hB : BTp B N) (k : Nat) : OkK N (3 + 2 * k) false (smK B N (atK B N k)) := (smK_ok hB (atK_p hB k) (atK_ok hB k)).mono (by omega)
theorem cmp_ok {c : Int} (hc : cmK c) (s : List Bool) : chkL (false :: false :: s) (opT c) = some (true :: s) := by
  rcases hc with e | e | e <;> subst e <;> rfl
theorem cmG_ok {B : Int → Int} {N : Int} (hB : BTp B N) {h : Nat} {sm : Int → RT} (hok : OkK N h false sm) {a : Int} (a0 : 0 ≤ a) (a1 : a ≤ N) {a' : Int} {t : List Tok} (e : cmG B N sm a = .inr (a', t)) (s : List Bool) (hs : s.length + (h + 1) ≤ 60) : chkL (false :: s) t = some (true :: s) := by
  have r := (sk_r (B := B) (N := N) (a := a))
  have r2 := r.2 a1
  have b := hB.r (a := sk B N a) (by omega)
  unfold cmG at e
  by_cases c1 : cmK (hr B N (sk B N a))
  · rw [if_pos c1] at e
    have lt := (b.2.2 (by omega)).1
    obtain ⟨⟨b1, t1⟩, e1, e⟩ := bnR_r e
    injection e with e
    injection e with e3 e4
    rw [← e4]
    exact chkL_ap (hok _ (by omega) (by omega) b1 t1 e1 (false :: s) (by rw [List.length_cons]; omega)) (cmp_ok c1 s)
  · rw [if_neg c1] at e; cases e
abbrev stU (e : Bool) (s : List Bool) : List Bool := if e = true then true :: true :: s else true :: s
theorem orT_ok (e : Bool) (s : List Bool) : chkL (stU e s) (orT e) = some (true :: s) := by cases e <;> rfl
theorem stU_l (e : Bool) (s : List Bool) : (stU e s).length ≤ s.length + 2 := by
  cases e
  · show (true :: s).length ≤ _; rw [List.length_cons]; omega
  · show (true :: true :: s).length ≤ _; rw [List.length_cons, List.length_cons]; omega
theorem and_ok (e : Bool) (s : List Bool) : chkL (true :: stU e s) (opT 38) = some (stU e s) := by cases e <;> rfl
theorem moL_ok {B : Int → Int} {N : Int} (hB : BTp B N) {h : Nat} {un : Int → RT} (hun : PosK N un) (hok : OkK N h true un) : ∀ (n : Nat) (a : Int) (e : Bool), 0 ≤ a → a ≤ N → ∀ a' t, moL B N un n a e = .inr (a', t) → ∀ s : List Bool, s.length + (h + 2) ≤ 60 → chkL (stU e s) t = some (true :: s)
  | 0, a, ee, a0, a1, a', t, e, s, hs => by
    injection e with e
    injection e with e1 e2
    rw [← e2]; exact orT_ok ee s
  | n + 1, a, ee, a0, a1, a', t, e, s, hs => by
    have r := (sk_r (B := B) (N := N) (a := a))
    have r2 := r.2 a1
    have b := hB.r (a := sk B N a) (by omega)
    have sl := stU_l ee s
    unfold moL at e
    by_cases c1 : hr B N (sk B N a) = 38
    · rw [if_pos c1] at e
      have lt := (b.2.2 (by omega)).1
      obtain ⟨-, q1⟩ := hun (sk B N a + 1) (by omega) (by omega)
      obtain ⟨⟨b1, t1⟩, e1, e⟩ := bnR_r e
      have t1' := q1 b1 t1 e1
      obtain ⟨⟨b2, t2⟩, e2, e⟩ := bnR_r e
      have ih := moL_ok hB hun hok n b1 ee (by omega) (by omega) b2 t2 e2 s hs
      injection e with e
      injection e with e3 e4
      rw [← e4]
      exact chkL_ap (hok _ (by omega) (by omega) b1 t1 e1 (stU ee s) (by omega)) (chkL_ap (and_ok ee s) ih)
    · rw [if_neg c1] at e
      by_cases c2 : hr B N (sk B N a) = 124
      · rw [if_pos c2] at e
        have lt := (b.2.2 (by omega)).1
        obtain ⟨-, q1⟩ := hun (sk B N a + 1) (by omega) (by omega)
        obtain ⟨⟨b1, t1⟩, e1, e⟩ := bnR_r e
        have t1' := q1 b1 t1 e1
        obtain ⟨⟨b2, t2⟩, e2, e⟩ := bnR_r e
        have ih := moL_ok hB hun hok n b1 true (by omega) (by omega) b2 t2 e2 s hs
        injection e with e
        injection e with e3 e4
        rw [← e4]
        exact chkL_ap (orT_ok ee s) (chkL_ap (hok _ (by omega) (by omega) b1 t1 e1 (true :: s) (by rw [List.length_cons]; omega)) ih)
      · rw [if_neg c2] at e
        injection e with e
        injection e with e3 e4
        rw [← e4]; exact orT_ok ee s
theorem cdt_ok {B : Int → Int} {N : Int} (hB : BTp B N) {h : Nat} {un : Int → RT} (hun : PosK N un) (hok : OkK N h true un) : OkK N (h + 2) true (cdt B N un) := by
  intro a a0 a1 a' t e s hs
  unfold cdt at e
  obtain ⟨-, q1⟩ := hun a a0 a1
  obtain ⟨⟨b1, t1⟩, e1, e⟩ := bnR_r e
  have t1' := q1 b1 t1 e1
  obtain ⟨⟨b2, t2⟩, e2, e⟩ := bnR_r e
  injection e with e
  injection e with e3 e4
  rw [← e4]
  exact chkL_ap (hok a a0 a1 b1 t1 e1 s (by omega)) (moL_ok hB hun hok 241 b1 false (by omega) (by omega) b2 t2 e2 s hs)
theorem unG_ok {B : Int → Int} {N : Int} (hB : BTp B N) {h hs : Nat} {nest : Bool} {un sm : Int → RT} (hpu : nest = true → PosK N un) (hps : PosK N sm) (hu : nest = true → OkK N h true un) (hsm : OkK N hs false sm) : OkK N (max (h + 2) (hs + 1)) true (unG B N nest un sm) := by
  intro a a0 a1 a' t e s hm
  have r := (sk_r (B := B) (N := N) (a := a))
  have r2 := r.2 a1
  have b := hB.r (a := sk B N a) (by omega)
  unfold unG at e
  by_cases c1 : hr B N (sk B N a) = 33
  · rw [if_pos c1] at e
    have lt := (b.2.2 (by omega)).1
    cases nest
    · rw [if_pos rfl] at e; cases e
    · rw [if_neg (by decide)] at e
      obtain ⟨⟨b1, t1⟩, e1, e⟩ := bnR_r e
      injection e with e
      injection e with e3 e4
      rw [← e4]
      exact chkL_ap (hu rfl _ (by omega) (by omega) b1 t1 e1 s (by omega)) rfl
  · rw [if_neg c1] at e
    by_cases c2 : hr B N (sk B N a) = 40
    · rw [if_pos c2] at e
      have lt := (b.2.2 (by omega)).1
      cases nest
      · rw [if_pos rfl] at e; cases e
      · rw [if_neg (by decide)] at e
        rw [cdt_b (fun s => if hr B N (sk B N s.1) = 41 then .inr (sk B N s.1 + 1, s.2) else .inl (sk B N s.1))] at e
        obtain ⟨⟨b1, t1⟩, e1, e⟩ := bnR_r e
        change (if hr B N (sk B N b1) = 41 then _ else _) = _ at e
        by_cases c3 : hr B N (sk B N b1) = 41
        · rw [if_pos c3] at e
          injection e with e
          injection e with e3 e4
          rw [← e4]
          exact cdt_ok hB (hpu rfl) (hu rfl) _ (by omega) (by omega) b1 t1 e1 s (by omega)
        · rw [if_neg c3] at e; cases e
    · rw [if_neg c2] at e
      obtain ⟨-, q1⟩ := hps (sk B N a) (by omega) r2
      obtain ⟨⟨b1, t1⟩, e1, e⟩ := bnR_r e
      have t1' := q1 b1 t1 e1
      obtain ⟨⟨b2, t2⟩, e2, e⟩ := bnR_r e
      injection e with e
      injection e with e3 e4
      rw [← e4]
      exact chkL_ap (hsm _ (by omega) r2 b1 t1 e1 s (by omega)) (cmG_ok hB hsm (by omega) (by omega) e2 s (by omega))
theorem unK_ok {B : Int → Int} {N : Int} (hB : BTp B N) : ∀ k : Nat, OkK N (4 + 2 * k) true (unK B N k)
  | 0 => (unG_ok hB (h := 0) (fun z => by cases z) (sm_p hB 0) (fun z => by cases z) (sm_ok hB 0)).mono (by decide)
  | k + 1 => (unG_ok hB (fun _ => unK_p hB k) (sm_p hB (k + 1)) (fun _ => unK_ok hB k) (sm_ok hB (k + 1))).mono (by omega)
theorem csq_ok {B : Int → Int} {N : Int} (hB : BTp B N) {t : List Tok} (ht : chkL [] t = some [true]) {a : Int} (a0 : 0 ≤ a) (a1 : a ≤ N) {a' : Int} {c : Cla} (e : csq B N t a = .inr (a', c)) : okCl c := by
  have r := (sk_r (B := B) (N := N) (a := a))
  have r2 := r.2 a1
  have b := hB.r (a := sk B N a) (by omega)
  unfold csq at e
  by_cases c1 : hr B N (sk B N a) = 63
  · rw [if_pos c1] at e
    have lt := (b.2.2 (by omega)).1
    obtain ⟨⟨b1, t1⟩, e1, e⟩ := bnR_r e
    injection e with e
    injection e with e3 e4
    rw [← e4]
    exact ⟨sm_ok hB 6 _ (by omega) (by omega) b1 t1 e1 [] (by decide), fun t' ht' => by injection ht' with ht'; rw [← ht']; exact ht⟩
  · rw [if_neg c1] at e; cases e
theorem cla_ok {B : Int → Int} {N : Int} (hB : BTp B N) {a : Int} (a0 : 0 ≤ a) (a1 : a ≤ N) {a' : Int} {c : Cla} (e : cla B N a = .inr (a', c)) : okCl c := by
  have r := (sk_r (B := B) (N := N) (a := a))
  have r2 := r.2 a1
  have b := hB.r (a := sk B N a) (by omega)
  unfold cla at e
  by_cases c1 : hr B N (sk B N a) ≠ 121
  · rw [if_pos c1] at e; cases e
  · rw [if_neg c1] at e
    have lt := (b.2.2 (by omega)).1
    have s := (sk_r (B := B) (N := N) (a := sk B N a + 1))
    have s2 := s.2 (by omega)
    have b2 := hB.r (a := sk B N (sk B N a + 1)) (by omega)
    generalize sk B N a = A at *
    by_cases c2 : hr B N (sk B N (A + 1)) ≠ 58
    · rw [if_pos c2] at e; cases e
    · rw [if_neg c2] at e
      have lt2 := (b2.2.2 (by omega)).1
      generalize sk B N (A + 1) = A2 at *
      have u := (sk_r (B := B) (N := N) (a := A2 + 1))
      have u2 := u.2 (by omega)
      generalize sk B N (A2 + 1) = A3 at *
      by_cases c3 : hr B N A3 = 33 ∨ hr B N A3 = 40
      · rw [if_pos c3] at e
        rw [cdt_b (fun s => csq B N s.2 s.1)] at e
        obtain ⟨-, q1⟩ := cdt_p hB (unK_p hB 6) A3 (by omega) u2
        obtain ⟨⟨b1, t1⟩, e1, e⟩ := bnR_r e
        have t1' := q1 b1 t1 e1
        exact csq_ok hB (cdt_ok hB (unK_p hB 6) (unK_ok hB 6) A3 (by omega) u2 b1 t1 e1 [] (by decide)) (by omega) (by omega) e
      · rw [if_neg c3] at e
        obtain ⟨-, q1⟩ := sm_p hB 6 A3 (by omega) u2
        obtain ⟨⟨b1, t1⟩, e1, e⟩ := bnR_r e
        have t1' := q1 b1 t1 e1
        have r3 := (sk_r (B := B) (N := N) (a := b1))
        have r4 := r3.2 (by omega)
        have ok1 := sm_ok hB 6 A3 (by omega) u2 b1 t1 e1 [] (by decide)
        change (if cmK (hr B N (sk B N b1)) then _ else _) = _ at e
        by_cases c4 : cmK (hr B N (sk B N b1))
        · rw [if_pos c4] at e
          obtain ⟨-, q2⟩ := cmG_p hB (sm_p hB 6) (sk B N b1) (by omega) r4
          obtain ⟨⟨b2, t2⟩, e2, e⟩ := bnR_r e
          have t2' := q2 b2 t2 e2
          have ih := moL_p hB (unK_p hB 6) 241 b2 false (by omega) (by omega)
          obtain ⟨⟨b3, t3⟩, e3, e⟩ := bnR_r e
          have t3' := ih.2 b3 t3 e3
          have ok2 := cmG_ok hB (sm_ok hB 6) (by omega) r4 e2 [] (by decide)
          have ok3 := moL_ok hB (unK_p hB 6) (unK_ok hB 6) 241 b2 false (by omega) (by omega) b3 t3 e3 [] (by decide)
          exact csq_ok hB (chkL_ap (chkL_ap ok1 ok2) ok3) (by omega) (by omega) e
        · rw [if_neg c4] at e
          injection e with e
          injection e with e3 e4
          rw [← e4]
          exact ⟨ok1, fun t' ht' => by cases ht'⟩
theorem law_ok {B : Int → Int} {N : Int} (hB : BTp B N) : ∀ (n : Nat) (a : Int), 0 ≤ a → a ≤ N → ∀ cs, law B N n a = .inr cs → ∀ c ∈ cs, okCl c
  | 0, a, a0, a1, cs, e => by cases e
  | n + 1, a, a0, a1, cs, e => by
    obtain ⟨-, q1⟩ := cla_p hB a0 a1
    unfold law at e
    obtain ⟨⟨b1, c1⟩, e1, e⟩ := bnR_r e
    have t1' := q1 b1 c1 e1
    have ok := cla_ok hB a0 a1 e1
    have r3 := (sk_r (B := B) (N := N) (a := b1))
    have r4 := r3.2 (by omega)
    have b := hB.r (a := sk B N b1) (by omega)
    change (if hr B N (sk B N b1) = -1 then _ else if hr B N (sk B N b1) = 59 then _ else _) = _ at e
    by_cases c2 : hr B N (sk B N b1) = -1
    · rw [if_pos c2] at e
      injection e with e
      rw [← e]
      intro c hc
      rcases List.mem_cons.mp hc with h | h
      · rw [h]; exact ok
      · cases h
    · rw [if_neg c2] at e
      by_cases c3 : hr B N (sk B N b1) = 59
      · rw [if_pos c3] at e
        have lt := (b.2.2 c2).1
        obtain ⟨cs2, e2, e⟩ := bnR_r e
        have ih := law_ok hB n (sk B N b1 + 1) (by omega) (by omega) cs2 e2
        injection e with e
        dsimp only at e
        rw [← e]
        intro c hc
        rcases List.mem_cons.mp hc with h | h
        · rw [h]; exact ok
        · exact ih c h
      · rw [if_neg c3] at e; cases e
