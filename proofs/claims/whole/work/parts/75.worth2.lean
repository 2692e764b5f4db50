/-! ===== WORTH BY THE TASTE THAT HOLDS ===== -/
theorem TyS.one {b : Bool} {s : List Int} (h : TyS [b] s) : ∃ v, s = [v] ∧ (-1000000 ≤ v ∧ v ≤ 1000000) ∧ (b = true → v = 0 ∨ v = 1) := by
  match s, h with
  | [v], h => exact ⟨v, rfl, h.1.1, h.1.2⟩
theorem chkL_tok {l : List Tok} : ∀ {ty ty' : List Bool}, chkL ty l = some ty' → ∀ t ∈ l, (-124 ≤ tokC t ∧ tokC t ≤ 9999) ∧ tokC t ≠ -59 ∧ tokC t ≠ -63 := by
  induction l with
  | nil => intro ty ty' h t ht; cases ht
  | cons a l ih =>
    intro ty ty' h t ht
    unfold chkL at h
    cases hq : chkT ty a with
    | none => rw [hq] at h; cases h
    | some ty1 =>
      rw [hq] at h
      rcases List.mem_cons.mp ht with rfl | ht
      · rcases chkT_cases hq with ⟨c, r, -, -⟩ | ⟨c, r, -, -⟩ | ⟨c, -⟩ | ⟨c, -⟩ | ⟨c, -⟩ | ⟨c, -⟩
        · unfold tokC; rw [if_pos c]; omega
        · unfold tokC; rw [if_neg (by omega), if_pos c]; omega
        all_goals
          have := sgn_r (c := t.1) (by omega)
          unfold tokC; rw [if_neg (by omega), if_neg (by omega)]; omega
      · exact ih (show chkL ty1 l = some ty' from h) t ht
theorem skipC {n N : Int} (hn : 0 ≤ n ∧ n < 5) (hN : N ≤ 240) {Q : RV → Mem → Prop} (d : Nat) {τ : Mem} (hN' : τ 27 n = N) (hh : τ 20 5 = n) : ∀ (l : List Int) (i : Int) (u6 : Option AV),
    (∀ c ∈ l, (-124 ≤ c ∧ c ≤ 9999) ∧ c ≠ -59) → LiesI (τ 21) (240 * n + i) l → 0 ≤ i → i + (l.length : Int) ≤ N →
    (∀ u', Ev (d + 3) mTs_worth 38 [vR 20, vR 45, vW 21 n, vI 0, vI 1, vI (i + (l.length : Int)), u'] [] τ Q) → Ev (d + 3) mTs_worth 38 [vR 20, vR 45, vW 21 n, vI 0, vI 1, vI i, u6] [] τ Q
  | [], i, u6, hc, hcode, h0, h1, h => by
    have := h u6
    rw [show i + (([] : List Int).length : Int) = i by show i + 0 = i; omega] at this
    exact this
  | c :: l, i, u6, hc, hcode, h0, h1, h => by
    rw [List.length_cons] at h1
    have hcd : τ 21 (n * 240 + i) = c := by rw [show n * 240 + i = 240 * n + i by omega]; exact lies_hd hcode
    have hct := lies_tl hcode
    rw [show 240 * n + i + 1 = 240 * n + (i + 1) by omega] at hct
    have hv := hc c List.mem_cons_self
    refine bTs_worth_38 ⟨by rw [hh]; omega, by rw [hh]; omega, ⟨by omega, by omega⟩, by rw [hh, hN']; exact ⟨by omega, by omega⟩, fun q => absurd q (by rw [hh, hN']; omega), fun _ => ?_⟩
    rw [hcd]
    refine ⟨(by omega), (by omega), (by omega), (by omega), ⟨by omega, by omega⟩, fun _ => ⟨by decide, fun q => absurd q (by decide), fun _ => skipC hn hN d hN' hh l (i + 1) _ (fun x hx => hc x (List.mem_cons_of_mem _ hx)) hct (by omega) (by omega) (fun u' => ?_)⟩, fun q => absurd q (by omega)⟩
    have := h u'
    rw [List.length_cons, show i + ((l.length + 1 : Nat) : Int) = i + 1 + (l.length : Int) by omega] at this
    exact this
theorem worthC0 {lt : Int → Int} (hl : ∀ j, 0 ≤ j → j < 7 → -1000000 ≤ lt j ∧ lt j ≤ 1000000) {n N : Int} (hn : 0 ≤ n ∧ n < 5) (hN : N ≤ 240) {Q : RV → Mem → Prop} (d : Nat) : ∀ (cs : List Cla) (i : Int) (τ : Mem) (u6 : Option AV),
    (∀ c ∈ cs, okCl c) → LiesI (τ 21) (240 * n + i) (cs.flatMap clC) → 0 ≤ i → i + ((cs.flatMap clC).length : Int) = N → τ 27 n = N → τ 20 5 = n → (∀ j, 0 ≤ j → j < 7 → τ 45 j = lt j) →
    (∀ τ', Sm τ τ' [28] [] → Q (rI (wth lt cs)) τ') → Ev (d + 3) mTs_worth 38 [vR 20, vR 45, vW 21 n, vI 0, vI 0, vI i, u6] [] τ Q
  | [], i, τ, u6, ho, hcode, h0, h1, hN', hh, hlt, h => by
    have h1' : i + 0 = N := h1
    exact bTs_worth_38 ⟨by rw [hh]; omega, by rw [hh]; omega, ⟨by omega, by omega⟩, by rw [hh, hN']; exact ⟨by omega, by omega⟩, fun _ => h τ Sm.refl, fun q => absurd q (by rw [hh, hN']; omega)⟩
  | c :: cs, i, τ, u6, ho, hcode, h0, h1, hN', hh, hlt, h => by
    rw [List.flatMap_cons] at hcode h1
    rw [List.length_append] at h1
    have hok := ho c List.mem_cons_self
    -- a sum, and the ; behind it
    have sumEnd : ∀ (s : List Tok) (i' : Int) (τ1 : Mem) (u : Option AV), chkL [] s = some [false] → Sm τ τ1 [28] [] → LiesI (τ1 21) (240 * n + i') (s.map tokC ++ [-59]) → 0 ≤ i' → i' + (s.length : Int) + 1 ≤ N → (∀ τ', Sm τ τ' [28] [] → Q (rI ((evL lt [] s).headD 0)) τ') → Ev (d + 3) mTs_worth 38 [vR 20, vR 45, vW 21 n, vI 0, vI 0, vI i', u] [] τ1 Q := by
      intro s i' τ1 u hs sm hcd i0 i1 hQ
      refine runC hl hn hN d s [] [] [false] i' τ1 u (by decide) hs trivial (fun j v hj => by cases hj) (lies_pre hcd) i0 (by omega) (by rw [sm.1 27 rfl]; exact hN') (by rw [sm.1 20 rfl]; exact hh) (fun j j0 j1 => by rw [sm.1 45 rfl]; exact hlt j j0 j1) (fun τ' u' sm2 hs2 => ?_)
      obtain ⟨v, hv, hr, -⟩ := (TyS.evL' hl (ty := []) (s := []) (l := s) trivial hs).one
      rw [hv] at hs2 hQ ⊢
      rw [show ((([v] : List Int).length : Nat) : Int) = 1 from rfl]
      have ht := st_top hs2
      have h21 := lies_suf hcd
      rw [List.length_map] at h21
      have hc59 : τ' 21 (n * 240 + (i' + (s.length : Int))) = -59 := by
        rw [sm2.1 21 rfl, show n * 240 + (i' + (s.length : Int)) = 240 * n + i' + (s.length : Int) by omega]; exact lies_hd h21
      have w27 : τ' 27 n = N := by rw [sm2.1 27 rfl, sm.1 27 rfl]; exact hN'
      have w20 : τ' 20 5 = n := by rw [sm2.1 20 rfl, sm.1 20 rfl]; exact hh
      refine bTs_worth_38 ⟨by rw [w20]; omega, by rw [w20]; omega, ⟨by omega, by omega⟩, by rw [w20, w27]; exact ⟨by omega, by omega⟩, fun q => absurd q (by rw [w20, w27]; omega), fun _ => ?_⟩
      rw [hc59]
      refine ⟨(by omega), (by omega), (by omega), (by omega), by decide, fun q => absurd rfl q, fun _ => ⟨by decide, fun q => absurd rfl q, fun _ => ⟨by decide, fun q => absurd q (by decide), fun _ => ⟨by decide, by decide, ?_⟩⟩⟩⟩
      have e : τ' 28 (1 - 1) = v := ht
      rw [e]
      exact hQ τ' (sm.trans sm2)
    match c, hok, hcode, h1, h with
    | (none, s), hok, hcode, h1, h =>
      have e1 : clC (none, s) = s.map tokC ++ [-59] := rfl
      rw [e1] at hcode h1
      rw [List.length_append, List.length_map] at h1
      have l1 : ((([-59] : List Int).length : Nat) : Int) = 1 := rfl
      exact sumEnd s i τ u6 hok.1 Sm.refl (lies_pre hcode) h0 (by omega) h
    | (some t, s), hok, hcode, h1, h =>
      have e1 : clC (some t, s) = t.map tokC ++ [-63] ++ s.map tokC ++ [-59] := rfl
      rw [e1] at hcode h1
      simp only [List.append_assoc] at hcode
      have l1 : (t.map tokC ++ [-63] ++ s.map tokC ++ [-59]).length = t.length + 1 + s.length + 1 := by simp; omega
      rw [l1] at h1
      have ht := hok.2 t rfl
      obtain ⟨v, hv, hr, h01⟩ := (TyS.evL' hl (ty := []) (s := []) (l := t) trivial ht).one
      refine runC hl hn hN d t [] [] [true] i τ u6 (by decide) ht trivial (fun j v hj => by cases hj) (lies_pre hcode) h0 (by omega) hN' hh hlt (fun τ1 u1 sm hs1 => ?_)
      rw [hv] at hs1 ⊢
      rw [show ((([v] : List Int).length : Nat) : Int) = 1 from rfl]
      have htop := st_top hs1
      have q1 := lies_suf hcode
      rw [List.length_map] at q1
      have q2 : LiesI (τ 21) (240 * n + i + (t.length : Int) + 1) (s.map tokC ++ ([-59] ++ cs.flatMap clC)) := lies_tl q1
      have q3 := lies_suf q2
      rw [List.length_map] at q3
      have q4 : LiesI (τ 21) (240 * n + i + (t.length : Int) + 1 + (s.length : Int) + 1) (cs.flatMap clC) := lies_tl q3
      have hc63 : τ1 21 (n * 240 + (i + (t.length : Int))) = -63 := by
        rw [sm.1 21 rfl, show n * 240 + (i + (t.length : Int)) = 240 * n + i + (t.length : Int) by omega]; exact lies_hd q1
      have w27 : τ1 27 n = N := by rw [sm.1 27 rfl]; exact hN'
      have w20 : τ1 20 5 = n := by rw [sm.1 20 rfl]; exact hh
      have e28 : τ1 28 (1 - 1) = v := htop
      refine bTs_worth_38 ⟨by rw [w20]; omega, by rw [w20]; omega, ⟨by omega, by omega⟩, by rw [w20, w27]; exact ⟨by omega, by omega⟩, fun q => absurd q (by rw [w20, w27]; omega), fun _ => ?_⟩
      rw [hc63]
      refine ⟨(by omega), (by omega), (by omega), (by omega), by decide, fun _ => ⟨by decide, fun _ => ⟨fun _ => ⟨fun q => absurd rfl q, fun _ => ⟨by decide, fun q => absurd q (by decide), fun _ => ⟨by decide, by decide, ?_⟩⟩⟩, fun q => absurd q (by decide)⟩, fun q => absurd rfl q⟩, fun q => absurd q (by decide)⟩
      rw [e28]
      have ew : wth lt ((some t, s) :: cs) = if v ≠ 0 then (evL lt [] s).headD 0 else wth lt cs := by
        show (if (evL lt [] t).headD 0 ≠ 0 then (evL lt [] s).headD 0 else wth lt cs) = _
        rw [hv]; rfl
      rw [ew] at h
      refine ⟨⟨by omega, by omega⟩, fun q => ?_, fun q => ?_⟩
      · -- yes
        refine sumEnd s (i + (t.length : Int) + 1) τ1 _ hok.1 sm ?_ (by omega) (by omega) (fun τ' sm' => by have := h τ' sm'; rw [if_pos q] at this; exact this)
        rw [sm.1 21 rfl, show 240 * n + (i + (t.length : Int) + 1) = 240 * n + i + (t.length : Int) + 1 by omega]
        exact lies_pre (show LiesI (τ 21) (240 * n + i + (t.length : Int) + 1) ((s.map tokC ++ [-59]) ++ cs.flatMap clC) by rw [List.append_assoc]; exact q2)
      · -- no: passed over
        have hst := chkL_tok hok.1
        refine skipC hn hN d w27 w20 (s.map tokC) (i + (t.length : Int) + 1) _ (fun x hx => by
          obtain ⟨y, hy, rfl⟩ := List.mem_map.mp hx
          exact ⟨(hst y hy).1, (hst y hy).2.1⟩) (by rw [sm.1 21 rfl, show 240 * n + (i + (t.length : Int) + 1) = 240 * n + i + (t.length : Int) + 1 by omega]; exact lies_pre q2) (by omega) (by rw [List.length_map]; omega) (fun u' => ?_)
        rw [List.length_map]
        have hc59 : τ1 21 (n * 240 + (i + (t.length : Int) + 1 + (s.length : Int))) = -59 := by
          rw [sm.1 21 rfl, show n * 240 + (i + (t.length : Int) + 1 + (s.length : Int)) = 240 * n + i + (t.length : Int) + 1 + (s.length : Int) by omega]; exact lies_hd q3
        refine bTs_worth_38 ⟨by rw [w20]; omega, by rw [w20]; omega, ⟨by omega, by omega⟩, by rw [w20, w27]; exact ⟨by omega, by omega⟩, fun q => absurd q (by rw [w20, w27]; omega), fun _ => ?_⟩
        rw [hc59]
        refine ⟨(by omega), (by omega), (by omega), (by omega), by decide, fun q => absurd rfl q, fun _ => ⟨by decide, fun _ => ?_, fun q => absurd q (by decide)⟩⟩
        refine worthC0 hl hn hN d cs (i + (t.length : Int) + 1 + (s.length : Int) + 1) τ1 _ (fun x hx => ho x (List.mem_cons_of_mem _ hx)) ?_ (by omega) (by omega) w27 w20 (fun j j0 j1 => by rw [sm.1 45 rfl]; exact hlt j j0 j1) (fun τ' sm' => by have := h τ' (sm.trans sm'); rw [if_neg (fun z => z q)] at this; exact this)
        rw [sm.1 21 rfl, show 240 * n + (i + (t.length : Int) + 1 + (s.length : Int) + 1) = 240 * n + i + (t.length : Int) + 1 + (s.length : Int) + 1 by omega]
        exact q4
theorem worthC {lt : Int → Int} (hl : ∀ j, 0 ≤ j → j < 7 → -1000000 ≤ lt j ∧ lt j ≤ 1000000) {n : Int} {τ : Mem} {cs : List Cla} (hn : 0 ≤ n ∧ n < 4) (hh : τ 20 5 = n) (hc : n < τ 20 4 ∧ τ 20 4 ≤ 4) (ho : ∀ c ∈ cs, okCl c) (hT : TextC τ n cs) (hlt : ∀ j, 0 ≤ j → j < 7 → τ 45 j = lt j) (d : Nat) {Q : RV → Mem → Prop} (h : ∀ τ', Sm τ τ' [28] [] → Q (rI (wth lt cs)) τ') : Cl (d + 3) mTs_worth [aR 20, aR 45] τ Q := by
  obtain ⟨t1, t2, t3⟩ := hT
  refine bTs_worth_in ⟨⟨by omega, by omega⟩, fun q => absurd q (by omega), fun _ => ⟨⟨by omega, by omega⟩, fun _ => ⟨(by omega), ?_⟩, fun q => absurd q (by omega)⟩⟩
  rw [hh]
  have t1' : τ 27 n = ((cs.flatMap clC).length : Int) := t1
  exact worthC0 hl (N := ((cs.flatMap clC).length : Int)) (by omega) (by omega) d cs 0 τ _ ho (by rw [Int.add_zero]; exact t3) (by decide) (by omega) t1' hh hlt h
/-! the reference's -/
theorem befM_pre : ∀ (pre suf : List Cla), befM (pre ++ suf) pre.length = (pre.flatMap clM).length
  | [], [] => rfl
  | [], c :: r => rfl
  | c :: r, suf => by
    show (clM c).length + befM (r ++ suf) r.length = _
    rw [befM_pre r suf, List.flatMap_cons, List.length_append]
theorem clM_none {s : List Tok} : clM (none, s) = s ∧ clT (none, s) = [] := ⟨rfl, rfl⟩
theorem workR {lt : Int → Int} (hl : ∀ j, 0 ≤ j → j < 7 → -1000000 ≤ lt j ∧ lt j ≤ 1000000) {n a b : Int} {τ : Mem} {l : List Tok} {ty : Bool} (hn : 0 ≤ n ∧ n < 4) (hc : chkL [] l = some [ty]) (hL : LiesP (τ 66) (τ 67) (520 * n + a) l) (ha : 0 ≤ a) (hb : b = a + (l.length : Int)) (hb2 : b ≤ 520) (hlt : ∀ j, 0 ≤ j → j < 7 → τ 73 j = lt j) (d : Nat) {Q : RV → Mem → Prop} (h : ∀ τ', Sm τ τ' [74] [] → Q (rI ((evL lt [] l).headD 0)) τ') : Cl (d + 4) mR_workOut [aR 64, aI n, aI a, aI b] τ Q := by
  refine bR_workOut_in ?_
  obtain ⟨v, hv, hr, -⟩ := (TyS.evL' hl (ty := []) (s := []) (l := l) trivial hc).one
  refine runR hl (x1 := n) (x2 := a) (x3 := b) (by omega) d l [] [] [ty] (520 * n + a) τ (by decide) hc trivial (fun j v hj => by cases hj) hL (by omega) (by omega) hlt (fun τ' sm hs => ?_)
  rw [hv] at hs ⊢
  have ht := st_top hs
  refine bR_workOut_12 ⟨⟨by omega, by omega⟩, ⟨by omega, by omega⟩, fun _ => ?_, fun q => absurd q (by omega)⟩
  have e : τ' 74 0 = v := ht
  rw [e]
  have := h τ' sm
  rw [hv] at this
  exact this
theorem worthR0 {lt : Int → Int} (hl : ∀ j, 0 ≤ j → j < 7 → -1000000 ≤ lt j ∧ lt j ≤ 1000000) {n : Int} (hn : 0 ≤ n ∧ n < 4) {cs : List Cla} {τ0 : Mem} (hT : TextM τ0 n cs) (hlt : ∀ j, 0 ≤ j → j < 7 → τ0 73 j = lt j) {Q : RV → Mem → Prop} (d : Nat) : ∀ (suf pre : List Cla) (τ : Mem), pre ++ suf = cs → (∀ c ∈ suf, okCl c) → Sm τ0 τ [74] [] → (∀ τ', Sm τ0 τ' [74] [] → Q (rI (wth lt suf)) τ') → Ev (d + 5) mR_worthOf 6 [vR 64, vI n, vI (140 * n + (pre.length : Int))] [] τ Q
  | [], pre, τ, he, ho, sm, h => by
    obtain ⟨t1, t2, t3, t4, t5⟩ := hT
    rw [List.append_nil] at he
    subst he
    have e1 : τ 69 n = (pre.length : Int) := by rw [sm.1 69 rfl]; exact t1
    exact bR_worthOf_6 ⟨(by omega), (by omega), ⟨by omega, by omega⟩, by rw [e1]; exact ⟨by omega, by omega⟩, fun _ => h τ sm, fun q => absurd q (by rw [e1]; omega)⟩
  | c :: suf, pre, τ, he, ho, sm, h => by
    obtain ⟨t1, t2, t3, t4, t5⟩ := id hT
    have hlen : pre.length + suf.length + 1 = cs.length := by rw [← he, List.length_append, List.length_cons]; omega
    have hk : cs[pre.length]? = some c := by rw [← he, List.getElem?_append_right (Nat.le_refl _), Nat.sub_self]; rfl
    obtain ⟨w1, w2, w3⟩ := t5 pre.length c hk
    have hbef : befM cs pre.length = (pre.flatMap clM).length := by rw [← he]; exact befM_pre pre (c :: suf)
    rw [hbef] at w1 w2 w3
    have e1 : τ 69 n = (cs.length : Int) := by rw [sm.1 69 rfl]; exact t1
    have hok := ho c List.mem_cons_self
    have htot : (pre.flatMap clM).length + (clM c).length ≤ 240 := by
      have : (cs.flatMap clM).length = (pre.flatMap clM).length + ((clM c).length + (suf.flatMap clM).length) := by rw [← he, List.flatMap_append, List.flatMap_cons, List.length_append, List.length_append]
      omega
    have hlies : LiesP (τ0 66) (τ0 67) (520 * n + ((pre.flatMap clM).length : Int)) (clM c) := by
      have q : LiesP (τ0 66) (τ0 67) (520 * n) (pre.flatMap clM ++ (clM c ++ suf.flatMap clM)) := by rw [← List.flatMap_cons, ← List.flatMap_append, he]; exact t4
      exact q.suf.pre
    have n1 : τ 70 (140 * n + (pre.length : Int)) = ((pre.flatMap clM).length : Int) := by rw [sm.1 70 rfl]; exact w1
    have n2 : τ 71 (140 * n + (pre.length : Int)) = ((pre.flatMap clM).length : Int) + ((clT c).length : Int) := by rw [sm.1 71 rfl]; exact w2
    have n3 : τ 72 (140 * n + (pre.length : Int)) = ((pre.flatMap clM).length : Int) + ((clM c).length : Int) := by rw [sm.1 72 rfl]; exact w3
    generalize hB : ((pre.flatMap clM).length : Int) = B at *
    have hB0 : 0 ≤ B := by omega
    have ctl : ((clT c).length : Int) ≤ ((clM c).length : Int) := by
      match c with
      | (none, s) => exact Int.natCast_nonneg _
      | (some t, s) =>
        show (t.length : Int) ≤ ((t ++ s).length : Int)
        rw [List.length_append]; omega
    have htot' : B + ((clM c).length : Int) ≤ 240 := by omega
    refine bR_worthOf_6 ⟨(by omega), (by omega), ⟨by omega, by omega⟩, by rw [e1]; exact ⟨by omega, by omega⟩, fun q => absurd q (by rw [e1]; omega), fun _ => ⟨(by omega), (by omega), by rw [n1]; exact ⟨by omega, by omega⟩, by rw [n2]; exact ⟨by omega, by omega⟩, fun q => ?_, fun q => ?_⟩⟩
    · -- no test
      rw [n1, n2] at q
      match c, hok, hlies, h, n2, n3, htot', q with
      | (none, s), hok, hlies, h, n2, n3, htot', q =>
        rw [n2, n3]
        have l0 : ((clT (none, s)).length : Int) = 0 := rfl
        have l1 : clM (none, s) = s := rfl
        rw [l0, Int.add_zero]
        rw [l1] at htot' hlies ⊢
        exact workR (l := s) hl hn (show chkL [] s = some [false] from hok.1) (by rw [sm.1 66 rfl, sm.1 67 rfl]; exact hlies) (by omega) rfl (by omega) (fun j j0 j1 => by rw [sm.1 73 rfl]; exact hlt j j0 j1) d (fun τ' sm' => h τ' (sm.trans sm'))
      | (some t, s), hok, hlies, h, n2, n3, htot', q =>
        have l0 : ((clT (some t, s)).length : Int) = (t.length : Int) := rfl
        rw [l0] at q
        have ht := hok.2 t rfl
        have : t = [] := List.length_eq_zero_iff.mp (by omega)
        rw [this] at ht
        cases ht
    · rw [n1, n2] at q
      match c, hok, hlies, h, n2, n3, htot', q with
      | (none, s), hok, hlies, h, n2, n3, htot', q => exact absurd (show B = B + 0 by omega) q
      | (some t, s), hok, hlies, h, n2, n3, htot', q =>
        have l0 : ((clT (some t, s)).length : Int) = (t.length : Int) := rfl
        have l1 : clM (some t, s) = t ++ s := rfl
        rw [l1] at hlies htot' n3
        rw [l0] at n2
        rw [List.length_append] at htot' n3
        have ht := hok.2 t rfl
        obtain ⟨v, hv, hr, -⟩ := (TyS.evL' hl (ty := []) (s := []) (l := t) trivial ht).one
        have ew : wth lt ((some t, s) :: suf) = if v ≠ 0 then (evL lt [] s).headD 0 else wth lt suf := by
          show (if (evL lt [] t).headD 0 ≠ 0 then (evL lt [] s).headD 0 else wth lt suf) = _
          rw [hv]; rfl
        rw [ew] at h
        rw [n1, n2]
        refine workR hl hn ht (by rw [sm.1 66 rfl, sm.1 67 rfl]; exact hlies.pre) hB0 rfl (by omega) (fun j j0 j1 => by rw [sm.1 73 rfl]; exact hlt j j0 j1) d (fun τ' sm' => ?_)
        have sm2 := sm.trans sm'
        rw [hv, show ([v] : List Int).headD 0 = v from rfl]
        refine ⟨⟨by omega, by omega⟩, fun z => ?_, fun z => ?_⟩
        · have z0 : v = 0 := z
          have he2 : (pre ++ [(some t, s)]) ++ suf = cs := by rw [List.append_assoc]; exact he
          have := worthR0 hl hn hT hlt d suf (pre ++ [(some t, s)]) τ' he2 (fun x hx => ho x (List.mem_cons_of_mem _ hx)) sm2 (fun τ'' sm3 => by have := h τ'' sm3; rw [if_neg (fun y => y z0)] at this; exact this)
          rw [List.length_append, show 140 * n + ((pre.length + ([(some t, s)] : List Cla).length : Nat) : Int) = 140 * n + (pre.length : Int) + 1 by show 140 * n + ((pre.length + 1 : Nat) : Int) = _; omega] at this
          exact this
        · have z0 : v ≠ 0 := z
          rw [sm'.1 71 rfl, sm'.1 72 rfl, n2, n3]
          have hs2 := hlies.suf
          rw [Int.add_assoc] at hs2
          exact workR (l := s) hl hn (show chkL [] s = some [false] from hok.1) (by rw [sm2.1 66 rfl, sm2.1 67 rfl]; exact hs2) (by omega) (by omega) (by omega) (fun j j0 j1 => by rw [sm2.1 73 rfl]; exact hlt j j0 j1) d (fun τ'' sm3 => by have := h τ'' (sm2.trans sm3); rw [if_pos z0] at this; exact this)
theorem worthR {lt : Int → Int} (hl : ∀ j, 0 ≤ j → j < 7 → -1000000 ≤ lt j ∧ lt j ≤ 1000000) {n : Int} {τ : Mem} {cs : List Cla} (hn : 0 ≤ n ∧ n < 4) (ho : ∀ c ∈ cs, okCl c) (hT : TextM τ n cs) (hlt : ∀ j, 0 ≤ j → j < 7 → τ 73 j = lt j) (d : Nat) {Q : RV → Mem → Prop} (h : ∀ τ', Sm τ τ' [74] [] → Q (rI (wth lt cs)) τ') : Cl (d + 5) mR_worthOf [aR 64, aI n] τ Q := by
  refine bR_worthOf_in ?_
  have := worthR0 hl hn hT hlt d cs [] τ rfl ho Sm.refl h
  rw [show 140 * n + (([] : List Cla).length : Int) = 140 * n from Int.add_zero _] at this
  exact this
