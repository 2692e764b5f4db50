/-! ===== A TASTE'S ROWS RUN, both sides ===== -/
theorem chkT_len {s s' : List Bool} {t : Tok} (h : chkT s t = some s') (hl : s.length ≤ 60) : s'.length ≤ 60 := by
  rcases chkT_cases h with ⟨c, r, b, rfl⟩ | ⟨c, r, b, rfl⟩ | ⟨c, r, rfl, rfl⟩ | ⟨c, r, rfl, rfl⟩ | ⟨c, r, rfl, rfl⟩ | ⟨c, r, rfl, rfl⟩
  all_goals (simp only [List.length_cons] at *; omega)
theorem sgn_r {c : Int} (h : 2 ≤ c ∧ c ≤ 11) : (7 : Int) < sgn c ∧ sgn c ≠ 59 ∧ sgn c ≠ 63 ∧ sgn c ≤ 124 ∧ (sgn c = 33 ↔ c = 9) := by
  unfold sgn
  repeat' split
  all_goals omega
theorem runC {lt : Int → Int} (hl : ∀ j, 0 ≤ j → j < 7 → -1000000 ≤ lt j ∧ lt j ≤ 1000000) {n N : Int} (hn : 0 ≤ n ∧ n < 5) (hN : N ≤ 240) {Q : RV → Mem → Prop} (d : Nat) : ∀ (l : List Tok) (s : List Int) (ty ty' : List Bool) (i : Int) (τ : Mem) (u6 : Option AV),
    ty.length ≤ 60 → chkL ty l = some ty' → TyS ty s → LiesI (τ 28) 0 s.reverse → LiesI (τ 21) (240 * n + i) (l.map tokC) → 0 ≤ i → i + (l.length : Int) ≤ N → τ 27 n = N → τ 20 5 = n → (∀ j, 0 ≤ j → j < 7 → τ 45 j = lt j) →
    (∀ τ' u', Sm τ τ' [28] [] → LiesI (τ' 28) 0 (evL lt s l).reverse → Ev (d + 3) mTs_worth 38 [vR 20, vR 45, vW 21 n, vI ((evL lt s l).length : Int), vI 0, vI (i + (l.length : Int)), u'] [] τ' Q) →
    Ev (d + 3) mTs_worth 38 [vR 20, vR 45, vW 21 n, vI (s.length : Int), vI 0, vI i, u6] [] τ Q
  | [], s, ty, ty', i, τ, u6, h60, hc, ht, hs, hcode, h0, h1, hN', hh, hlt, h => by
    have := h τ u6 Sm.refl hs
    rw [show i + (([] : List Tok).length : Int) = i by show i + 0 = i; omega] at this
    exact this
  | t :: l, s, ty, ty', i, τ, u6, h60, hc, ht, hs, hcode, h0, h1, hN', hh, hlt, h => by
    unfold chkL at hc
    cases hq : chkT ty t with
    | none => rw [hq] at hc; cases hc
    | some ty1 =>
    rw [hq] at hc
    have hc' : chkL ty1 l = some ty' := hc
    rw [List.length_cons] at h1
    rw [List.map_cons] at hcode
    have hcd : τ 21 (n * 240 + i) = tokC t := by rw [show n * 240 + i = 240 * n + i by omega]; exact lies_hd hcode
    have hct := lies_tl hcode
    rw [show 240 * n + i + 1 = 240 * n + (i + 1) by omega] at hct
    have hty := ht.ev hl hq
    have hlen := ht.len
    have h61 := chkT_len hq h60
    -- what goes on behind this sign
    have nx : ∀ τ1 u1, Sm τ τ1 [28] [] → LiesI (τ1 28) 0 (evT lt s t).reverse → Ev (d + 3) mTs_worth 38 [vR 20, vR 45, vW 21 n, vI ((evT lt s t).length : Int), vI 0, vI (i + 1), u1] [] τ1 Q := fun τ1 u1 sm hs1 =>
      runC hl hn hN d l (evT lt s t) ty1 ty' (i + 1) τ1 u1 h61 hc' hty hs1 (by rw [sm.1 21 rfl]; exact hct) (by omega) (by omega) (by rw [sm.1 27 rfl]; exact hN') (by rw [sm.1 20 rfl]; exact hh) (fun j j0 j1 => by rw [sm.1 45 rfl]; exact hlt j j0 j1) (fun τ' u' sm2 hs2 => by
        have := h τ' u' (sm.trans sm2) hs2
        rw [List.length_cons, show i + ((l.length + 1 : Nat) : Int) = i + 1 + (l.length : Int) by omega] at this
        exact this)
    rcases chkT_cases hq with ⟨c, r, b, rfl⟩ | ⟨c, r, b, rfl⟩ | ⟨c, r, rfl, rfl⟩ | ⟨c, r, rfl, rfl⟩ | ⟨c, r, rfl, rfl⟩ | ⟨c, r, rfl, rfl⟩
    · -- a number
      have e1 : tokC t = t.2 := by unfold tokC; rw [if_pos c]
      have e2 : evT lt s t = t.2 :: s := by unfold evT; rw [if_pos c]
      rw [e1] at hcd
      rw [e2] at nx
      refine bTs_worth_38 ⟨by rw [hh]; omega, by rw [hh]; omega, ⟨by omega, by omega⟩, by rw [hh, hN']; exact ⟨by omega, by omega⟩, fun q => absurd q (by rw [hh, hN']; omega), fun _ => ?_⟩
      rw [hcd]
      refine ⟨(by omega), (by omega), (by omega), (by omega), ⟨by omega, by omega⟩, fun _ => ⟨by decide, fun _ => ⟨fun q => absurd q (by omega), fun _ => ⟨⟨by omega, by omega⟩, fun q => absurd q (by omega), fun _ => ⟨fun q => absurd q (by omega), fun _ => ⟨(by omega), ?_⟩⟩⟩⟩, fun q => absurd rfl q⟩, fun q => absurd q (by omega)⟩
      have := nx (ups τ 28 (s.length : Int) t.2) (vI (-t.2)) (Sm.refl.ups rfl (Or.inl (by decide))) (by rw [ups_row]; exact st_push hs)
      rw [List.length_cons, show ((s.length + 1 : Nat) : Int) = (s.length : Int) + 1 by omega] at this
      rw [show (- -t.2 : Int) = t.2 by omega]; exact this
    · -- a letter
      have e1 : tokC t = -1 - t.2 := by unfold tokC; rw [if_neg (by omega), if_pos c]
      have e2 : evT lt s t = lt t.2 :: s := by unfold evT; rw [if_neg (by omega), if_pos c]
      rw [e1] at hcd
      rw [e2] at nx
      refine bTs_worth_38 ⟨by rw [hh]; omega, by rw [hh]; omega, ⟨by omega, by omega⟩, by rw [hh, hN']; exact ⟨by omega, by omega⟩, fun q => absurd q (by rw [hh, hN']; omega), fun _ => ?_⟩
      rw [hcd]
      refine ⟨(by omega), (by omega), (by omega), (by omega), ⟨by omega, by omega⟩, fun _ => ⟨by decide, fun _ => ⟨fun q => absurd q (by omega), fun _ => ⟨⟨by omega, by omega⟩, fun q => absurd q (by omega), fun _ => ⟨fun _ => ⟨(by omega), (by omega), (by omega), ?_⟩, fun q => absurd q (by omega)⟩⟩⟩, fun q => absurd rfl q⟩, fun q => absurd q (by omega)⟩
      rw [show (-(-1 - t.2) - 1 : Int) = t.2 by omega, hlt t.2 r.1 r.2]
      have := nx (ups τ 28 (s.length : Int) (lt t.2)) (vI (-(-1 - t.2))) (Sm.refl.ups rfl (Or.inl (by decide))) (by rw [ups_row]; exact st_push hs)
      rw [List.length_cons, show ((s.length + 1 : Nat) : Int) = (s.length : Int) + 1 by omega] at this
      exact this
    all_goals have sg := sgn_r (c := t.1) (by omega)
    all_goals have e1 : tokC t = -(sgn t.1) := by (unfold tokC; rw [if_neg (by omega), if_neg (by omega)])
    all_goals rw [e1] at hcd
    -- two are joined
    case inr.inr.inr.inr.inl =>
      match s, ht, hs, hlen, nx with
      | a :: r', ht, hs, hlen, nx =>
        have e2 : evT lt (a :: r') t = (1 - a) :: r' := by unfold evT; rw [if_neg (by omega), if_neg (by omega), if_pos c]
        rw [e2] at nx
        have ta := st_top hs
        simp only [List.length_cons] at hlen h60 h61 ⊢
        refine bTs_worth_38 ⟨by rw [hh]; omega, by rw [hh]; omega, ⟨by omega, by omega⟩, by rw [hh, hN']; exact ⟨by omega, by omega⟩, fun q => absurd q (by rw [hh, hN']; omega), fun _ => ?_⟩
        rw [hcd, show (- -(sgn t.1) : Int) = sgn t.1 by omega, show (((r'.length + 1 : Nat) : Int) - 1) = (r'.length : Int) by omega, ta]
        refine ⟨(by omega), (by omega), (by omega), (by omega), ⟨by omega, by omega⟩, fun _ => ⟨by decide, fun _ => ⟨fun _ => ⟨fun _ => ⟨fun q => absurd (sg.2.2.2.2.mpr c) q, fun _ => ⟨⟨by omega, by omega⟩, fun q => absurd q (by omega), fun _ => ⟨(by omega), (by omega), ?_⟩⟩⟩, fun q => absurd q sg.2.2.1⟩, fun q => absurd q (by omega)⟩, fun q => absurd rfl q⟩, fun q => absurd q sg.2.1⟩
        have := nx (ups τ 28 (r'.length : Int) (1 - a)) (vI (sgn t.1)) (Sm.refl.ups rfl (Or.inl (by decide))) (by rw [ups_row]; exact st_set hs)
        rw [List.length_cons] at this
        exact this
    all_goals
      match s, ht, hs, hlen, nx with
      | b :: a :: r', ht, hs, hlen, nx =>
        have e2 : evT lt (b :: a :: r') t = wk t.1 a b :: r' := by unfold evT; rw [if_neg (by omega), if_neg (by omega), if_neg (by omega)]
        rw [e2] at nx
        have tb := st_top hs
        have ta := st_top (st_pop hs)
        rw [List.length_cons] at tb
        simp only [List.length_cons] at hlen h60 h61 ⊢
        have hb := ht.1.1
        have ha := ht.2.1.1
        refine bTs_worth_38 ⟨by rw [hh]; omega, by rw [hh]; omega, ⟨by omega, by omega⟩, by rw [hh, hN']; exact ⟨by omega, by omega⟩, fun q => absurd q (by rw [hh, hN']; omega), fun _ => ?_⟩
        rw [hcd, show (- -(sgn t.1) : Int) = sgn t.1 by omega]
        refine ⟨(by omega), (by omega), (by omega), (by omega), ⟨by omega, by omega⟩, fun _ => ⟨by decide, fun _ => ⟨fun _ => ⟨fun _ => ⟨fun _ => ⟨⟨by omega, by omega⟩, fun q => absurd q (by omega), fun _ => ⟨(by omega), (by omega), (by omega), (by omega), ?_⟩⟩, fun q => absurd (sg.2.2.2.2.mp q) (by omega)⟩, fun q => absurd q sg.2.2.1⟩, fun q => absurd q (by omega)⟩, fun q => absurd rfl q⟩, fun q => absurd q sg.2.1⟩
        rw [show (((r'.length + 1 + 1 : Nat) : Int) + -1 - 1) = (r'.length : Int) by omega, show (((r'.length + 1 + 1 : Nat) : Int) + -1) = ((r'.length + 1 : Nat) : Int) by omega, ta, tb]
        refine joinedC d (by omega) ha hb (fun z => ⟨ht.2.1.2 (by first | rfl | omega), ht.1.2 (by first | rfl | omega)⟩) ?_
        have := nx (ups τ 28 (r'.length : Int) (wk t.1 a b)) (vI (sgn t.1)) (Sm.refl.ups rfl (Or.inl (by decide))) (by rw [ups_row]; exact st_set (st_pop hs))
        rw [List.length_cons] at this
        exact this
theorem LiesP.hd {f g : Int → Int} {n : Int} {t : Tok} {l : List Tok} (h : LiesP f g n (t :: l)) : f n = t.1 ∧ g n = t.2 := by
  have := h 0 t rfl
  rw [show n + Int.ofNat 0 = n from Int.add_zero n] at this; exact this
theorem LiesP.tl {f g : Int → Int} {n : Int} {t : Tok} {l : List Tok} (h : LiesP f g n (t :: l)) : LiesP f g (n + 1) l := fun j v hj => by
  have := h (j + 1) v hj
  rw [show n + Int.ofNat (j + 1) = n + 1 + Int.ofNat j by show n + ((j + 1 : Nat) : Int) = n + 1 + (j : Int); omega] at this
  exact this
theorem LiesP.pre {f g : Int → Int} {n : Int} {l r : List Tok} (h : LiesP f g n (l ++ r)) : LiesP f g n l := fun j v hj => h j v (by rw [List.getElem?_append_left (List.getElem?_eq_some_iff.mp hj).1]; exact hj)
theorem LiesP.suf {f g : Int → Int} {n : Int} {l r : List Tok} (h : LiesP f g n (l ++ r)) : LiesP f g (n + (l.length : Int)) r := fun j v hj => by
  have := h (l.length + j) v (by rw [List.getElem?_append_right (by omega), Nat.add_sub_cancel_left]; exact hj)
  rw [show n + Int.ofNat (l.length + j) = n + (l.length : Int) + Int.ofNat j by show n + ((l.length + j : Nat) : Int) = n + (l.length : Int) + (j : Int); omega] at this
  exact this
theorem runR {lt : Int → Int} (hl : ∀ j, 0 ≤ j → j < 7 → -1000000 ≤ lt j ∧ lt j ≤ 1000000) {x1 x2 x3 : Int} (hE : 520 * x1 + x3 ≤ 2600 ∧ -100000 ≤ 520 * x1 + x3) {Q : RV → Mem → Prop} (d : Nat) : ∀ (l : List Tok) (s : List Int) (ty ty' : List Bool) (i : Int) (τ : Mem),
    ty.length ≤ 60 → chkL ty l = some ty' → TyS ty s → LiesI (τ 74) 0 s.reverse → LiesP (τ 66) (τ 67) i l → 0 ≤ i → i + (l.length : Int) ≤ 520 * x1 + x3 → (∀ j, 0 ≤ j → j < 7 → τ 73 j = lt j) →
    (∀ τ', Sm τ τ' [74] [] → LiesI (τ' 74) 0 (evL lt s l).reverse → Ev (d + 4) mR_workOut 12 [vR 64, vI x1, vI x2, vI x3, vI ((evL lt s l).length : Int), vI (i + (l.length : Int))] [] τ' Q) →
    Ev (d + 4) mR_workOut 12 [vR 64, vI x1, vI x2, vI x3, vI (s.length : Int), vI i] [] τ Q
  | [], s, ty, ty', i, τ, h60, hc, ht, hs, hcode, h0, h1, hlt, h => by
    have := h τ Sm.refl hs
    rw [show i + (([] : List Tok).length : Int) = i by show i + 0 = i; omega] at this
    exact this
  | t :: l, s, ty, ty', i, τ, h60, hc, ht, hs, hcode, h0, h1, hlt, h => by
    unfold chkL at hc
    cases hq : chkT ty t with
    | none => rw [hq] at hc; cases hc
    | some ty1 =>
    rw [hq] at hc
    have hc' : chkL ty1 l = some ty' := hc
    rw [List.length_cons] at h1
    obtain ⟨hcd, hvd⟩ := hcode.hd
    have hct := hcode.tl
    have hty := ht.ev hl hq
    have hlen := ht.len
    have h61 := chkT_len hq h60
    have nx : ∀ τ1, Sm τ τ1 [74] [] → LiesI (τ1 74) 0 (evT lt s t).reverse → Ev (d + 4) mR_workOut 12 [vR 64, vI x1, vI x2, vI x3, vI ((evT lt s t).length : Int), vI (i + 1)] [] τ1 Q := fun τ1 sm hs1 =>
      runR hl hE d l (evT lt s t) ty1 ty' (i + 1) τ1 h61 hc' hty hs1 (by rw [sm.1 66 rfl, sm.1 67 rfl]; exact hct) (by omega) (by omega) (fun j j0 j1 => by rw [sm.1 73 rfl]; exact hlt j j0 j1) (fun τ' sm2 hs2 => by
        have := h τ' (sm.trans sm2) hs2
        rw [List.length_cons, show i + ((l.length + 1 : Nat) : Int) = i + 1 + (l.length : Int) by omega] at this
        exact this)
    rcases chkT_cases hq with ⟨c, r, b, rfl⟩ | ⟨c, r, b, rfl⟩ | ⟨c, r, rfl, rfl⟩ | ⟨c, r, rfl, rfl⟩ | ⟨c, r, rfl, rfl⟩ | ⟨c, r, rfl, rfl⟩
    · have e2 : evT lt s t = t.2 :: s := by unfold evT; rw [if_pos c]
      rw [e2] at nx
      refine bR_workOut_12 ⟨⟨by omega, by omega⟩, ⟨by omega, by omega⟩, fun q => absurd q (by omega), fun _ => ?_⟩
      rw [hcd]
      refine ⟨(by omega), (by omega), ⟨by omega, by omega⟩, fun _ => bR_workOut_45 ⟨(by omega), (by omega), by rw [hcd]; exact ⟨by omega, by omega⟩, fun q => absurd (hcd.trans c) q, fun _ => ⟨(by omega), (by omega), ?_⟩⟩, fun q => absurd c q⟩
      rw [hvd]
      have := nx (ups τ 74 (s.length : Int) t.2) (Sm.refl.ups rfl (Or.inl (by decide))) (by rw [ups_row]; exact st_push hs)
      rw [List.length_cons, show ((s.length + 1 : Nat) : Int) = (s.length : Int) + 1 by omega] at this
      exact this
    · have e2 : evT lt s t = lt t.2 :: s := by unfold evT; rw [if_neg (by omega), if_pos c]
      rw [e2] at nx
      refine bR_workOut_12 ⟨⟨by omega, by omega⟩, ⟨by omega, by omega⟩, fun q => absurd q (by omega), fun _ => ?_⟩
      rw [hcd]
      refine ⟨(by omega), (by omega), ⟨by omega, by omega⟩, fun q => absurd q (by omega), fun _ => ⟨fun q => absurd c q, fun _ => bR_workOut_45 ⟨(by omega), (by omega), by rw [hcd]; exact ⟨by omega, by omega⟩, fun _ => ?_, fun q => absurd (hcd.symm.trans q) (by omega)⟩⟩⟩
      rw [hvd, hlt t.2 r.1 r.2]
      refine ⟨(by omega), (by omega), (by omega), (by omega), ?_⟩
      have := nx (ups τ 74 (s.length : Int) (lt t.2)) (Sm.refl.ups rfl (Or.inl (by decide))) (by rw [ups_row]; exact st_push hs)
      rw [List.length_cons, show ((s.length + 1 : Nat) : Int) = (s.length : Int) + 1 by omega] at this
      exact this
    case inr.inr.inr.inr.inl =>
      match s, ht, hs, hlen, nx with
      | a :: r', ht, hs, hlen, nx =>
        have e2 : evT lt (a :: r') t = (1 - a) :: r' := by unfold evT; rw [if_neg (by omega), if_neg (by omega), if_pos c]
        rw [e2] at nx
        have ta := st_top hs
        simp only [List.length_cons] at hlen h60 h61 ⊢
        refine bR_workOut_12 ⟨⟨by omega, by omega⟩, ⟨by omega, by omega⟩, fun q => absurd q (by omega), fun _ => ?_⟩
        rw [hcd, show (((r'.length + 1 : Nat) : Int) - 1) = (r'.length : Int) by omega, ta]
        refine ⟨(by omega), (by omega), ⟨by omega, by omega⟩, fun q => absurd q (by omega), fun _ => ⟨fun _ => ⟨fun q => absurd c q, fun _ => ⟨(by omega), (by omega), ?_⟩⟩, fun q => absurd q (by omega)⟩⟩
        have := nx (ups τ 74 (r'.length : Int) (1 - a)) (Sm.refl.ups rfl (Or.inl (by decide))) (by rw [ups_row]; exact st_set hs)
        rw [List.length_cons] at this
        exact this
    all_goals
      match s, ht, hs, hlen, nx with
      | b :: a :: r', ht, hs, hlen, nx =>
        have e2 : evT lt (b :: a :: r') t = wk t.1 a b :: r' := by unfold evT; rw [if_neg (by omega), if_neg (by omega), if_neg (by omega)]
        rw [e2] at nx
        have tb := st_top hs
        have ta := st_top (st_pop hs)
        rw [List.length_cons] at tb
        simp only [List.length_cons] at hlen h60 h61 ⊢
        have hb := ht.1.1
        have ha := ht.2.1.1
        refine bR_workOut_12 ⟨⟨by omega, by omega⟩, ⟨by omega, by omega⟩, fun q => absurd q (by omega), fun _ => ?_⟩
        rw [hcd, show (((r'.length + 1 + 1 : Nat) : Int) + -1 - 1) = (r'.length : Int) by omega, show (((r'.length + 1 + 1 : Nat) : Int) + -1) = ((r'.length + 1 : Nat) : Int) by omega, ta, tb]
        refine ⟨(by omega), (by omega), ⟨by omega, by omega⟩, fun q => absurd q (by omega), fun _ => ⟨fun _ => ⟨fun _ => ⟨(by omega), (by omega), ⟨by omega, by omega⟩, (by omega), (by omega), ⟨by omega, by omega⟩, workedR d (by omega) ha hb ?_⟩, fun q => absurd q (by omega)⟩, fun q => absurd q (by omega)⟩⟩
        have := nx (ups τ 74 (r'.length : Int) (wk t.1 a b)) (Sm.refl.ups rfl (Or.inl (by decide))) (by rw [ups_row]; exact st_set (st_pop hs))
        rw [List.length_cons] at this
        exact this
