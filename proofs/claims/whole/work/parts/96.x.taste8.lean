/-! ===== A TASTE READ, BY THE REFERENCE: CLAUSES, THE LAW ===== -/
theorem condR' {B : Int → Int} {N : Int} (hB : BTp B N) {p : Int} (hp : 0 ≤ p ∧ p < 5) (e : Nat) (he : 93 ≤ e) : RdR B N p 0 258 (cdt B N (unK B N 6)) (fun ω Q => Cl e mR_condition [aR 64] ω Q) := by
  obtain ⟨y, rfl⟩ : ∃ y, e = 25 + y + 68 := ⟨e - 93, by omega⟩
  exact condR hB 25 (D := 6 - ((6 : Nat) : Int)) (U := 244 + 2 * ((6 : Nat) : Int)) hp (by decide) (unK_p hB 6) (fun x => unKR hB hp 6 _ (by decide) (by omega)) y
theorem moreR' {B : Int → Int} {N : Int} (hB : BTp B N) {p : Int} (hp : 0 ≤ p ∧ p < 5) (e : Nat) (he : 92 ≤ e) : RdR B N p 0 258 (fun a => moL B N (unK B N 6) 241 a false) (fun ω Q => Cl e mR_goOnAnd [aR 64] ω (fun r3 τ4 => oV r3 (Cl e mR_goOnOr [aR 64] τ4 Q))) := by
  obtain ⟨y, rfl⟩ : ∃ y, e = 25 + y + 67 := ⟨e - 92, by omega⟩
  exact moreR hB 25 (D := 6 - ((6 : Nat) : Int)) (U := 244 + 2 * ((6 : Nat) : Int)) hp (by decide) (unK_p hB 6) (fun x => unKR hB hp 6 _ (by decide) (by omega)) y
def FrL (ω τ : Mem) (p : Int) : Prop := Sm ω τ [64, 66, 67, 68, 69, 70, 71, 72] [3, 4, 5, 14] ∧ (∀ j, ¬ (520 * p ≤ j ∧ j < 520 * p + 520) → τ 66 j = ω 66 j ∧ τ 67 j = ω 67 j) ∧ (∀ j, j ≠ p → τ 68 j = ω 68 j ∧ τ 69 j = ω 69 j) ∧ ∀ j, ¬ (140 * p ≤ j ∧ j < 140 * p + 140) → τ 70 j = ω 70 j ∧ τ 71 j = ω 71 j ∧ τ 72 j = ω 72 j
theorem frL_of {ω τ : Mem} {p : Int} (f : FrR ω τ p) : FrL ω τ p := ⟨f.1.mono (by decide) (by decide), f.2.1, fun j hj => ⟨f.2.2 j hj, by rw [f.1.1 69 rfl]⟩, fun j _ => by rw [f.1.1 70 rfl, f.1.1 71 rfl, f.1.1 72 rfl]; exact ⟨rfl, rfl, rfl⟩⟩
theorem FrL.tr {ω τ ζ : Mem} {p : Int} (h : FrL ω τ p) (g : FrL τ ζ p) : FrL ω ζ p := ⟨h.1.trans g.1, fun j hj => by rw [(g.2.1 j hj).1, (g.2.1 j hj).2]; exact h.2.1 j hj, fun j hj => by rw [(g.2.2.1 j hj).1, (g.2.2.1 j hj).2]; exact h.2.2.1 j hj, fun j hj => by rw [(g.2.2.2 j hj).1, (g.2.2.2 j hj).2.1, (g.2.2.2 j hj).2.2]; exact h.2.2.2 j hj⟩
theorem frL_70 {τ : Mem} {p i v : Int} (hi : 140 * p ≤ i ∧ i < 140 * p + 140) : FrL τ (ups τ 70 i v) p := ⟨Sm.refl.ups rfl (Or.inl (by decide)), fun j _ => by rw [ups_ne (by decide), ups_ne (by decide)]; exact ⟨rfl, rfl⟩, fun j _ => by rw [ups_ne (by decide), ups_ne (by decide)]; exact ⟨rfl, rfl⟩, fun j hj => by rw [ups_fn (by omega), ups_ne (by decide), ups_ne (by decide)]; exact ⟨rfl, rfl, rfl⟩⟩
theorem frL_71 {τ : Mem} {p i v : Int} (hi : 140 * p ≤ i ∧ i < 140 * p + 140) : FrL τ (ups τ 71 i v) p := ⟨Sm.refl.ups rfl (Or.inl (by decide)), fun j _ => by rw [ups_ne (by decide), ups_ne (by decide)]; exact ⟨rfl, rfl⟩, fun j _ => by rw [ups_ne (by decide), ups_ne (by decide)]; exact ⟨rfl, rfl⟩, fun j hj => by rw [ups_ne (by decide), ups_fn (by omega), ups_ne (by decide)]; exact ⟨rfl, rfl, rfl⟩⟩
theorem frL_72 {τ : Mem} {p i v : Int} (hi : 140 * p ≤ i ∧ i < 140 * p + 140) : FrL τ (ups τ 72 i v) p := ⟨Sm.refl.ups rfl (Or.inl (by decide)), fun j _ => by rw [ups_ne (by decide), ups_ne (by decide)]; exact ⟨rfl, rfl⟩, fun j _ => by rw [ups_ne (by decide), ups_ne (by decide)]; exact ⟨rfl, rfl⟩, fun j hj => by rw [ups_ne (by decide), ups_ne (by decide), ups_fn (by omega)]; exact ⟨rfl, rfl, rfl⟩⟩
theorem frL_69 {τ : Mem} {p v : Int} : FrL τ (ups τ 69 p v) p := ⟨Sm.refl.ups rfl (Or.inl (by decide)), fun j _ => by rw [ups_ne (by decide), ups_ne (by decide)]; exact ⟨rfl, rfl⟩, fun j hj => by rw [ups_ne (by decide), ups_fn hj]; exact ⟨rfl, rfl⟩, fun j hj => by rw [ups_ne (by decide), ups_ne (by decide), ups_ne (by decide)]; exact ⟨rfl, rfl, rfl⟩⟩
theorem lv_row {ω τ : Mem} {B : Int → Int} {N p D a : Int} {M : List Tok} (h : Lv ω B N p D a M) (s : Sm ω τ [69, 70, 71, 72] []) : Lv τ B N p D a M := ⟨h.1.sm s rfl rfl rfl, by rw [s.2 4 rfl]; exact h.2.1, by rw [s.2 5 rfl]; exact h.2.2.1, by
  have e := h.2.2.2
  unfold EmR at e ⊢
  rw [s.2 14 rfl, s.1 68 rfl, s.1 66 rfl, s.1 67 rfl]; exact e⟩
theorem fl_row {ω τ : Mem} {p w X : Int} (h : Fl ω p w X) (s : Sm ω τ [69, 70, 71, 72] []) : Fl τ p w X := ⟨by rw [s.2 4 rfl]; exact h.1, by rw [s.1 68 rfl]; exact h.2.1, by rw [s.2 14 rfl]; exact h.2.2⟩
/-- the clauses' rows -/
def RwM (ω : Mem) (p : Int) (cs : List Cla) : Prop := ω 69 p = (cs.length : Int) ∧ ∀ (k : Nat) (c : Cla), cs[k]? = some c → ω 70 (140 * p + (k : Int)) = ((befM cs k : Nat) : Int) ∧ ω 71 (140 * p + (k : Int)) = ((befM cs k + (clT c).length : Nat) : Int) ∧ ω 72 (140 * p + (k : Int)) = ((befM cs k + (clM c).length : Nat) : Int)
/-- within a clause -/
def Wc (ω τ : Mem) (i F : Int) : Prop := τ 69 = ω 69 ∧ τ 70 i = F ∧ ∀ j, j ≠ i → τ 70 j = ω 70 j ∧ τ 71 j = ω 71 j ∧ τ 72 j = ω 72 j
theorem Wc.sm {ω τ ζ : Mem} {i F p : Int} (h : Wc ω τ i F) (f : FrR τ ζ p) : Wc ω ζ i F := by
  unfold Wc
  rw [f.1.1 69 rfl, f.1.1 70 rfl, f.1.1 71 rfl, f.1.1 72 rfl]; exact h
theorem Wc.w71 {ω τ : Mem} {i F v : Int} (h : Wc ω τ i F) : Wc ω (ups τ 71 i v) i F := ⟨by rw [ups_ne (by decide)]; exact h.1, by rw [ups_ne (by decide)]; exact h.2.1, fun j hj => by rw [ups_ne (by decide), ups_fn hj, ups_ne (by decide)]; exact h.2.2 j hj⟩
theorem befM_take : ∀ (cs : List Cla) (k : Nat), befM cs k = ((cs.take k).flatMap clM).length
  | [], k => by cases k <;> rfl
  | c :: r, 0 => rfl
  | c :: r, k + 1 => by
    show (clM c).length + befM r k = _
    rw [befM_take r k, List.take_succ_cons, List.flatMap_cons, List.length_append]
theorem fl_app (cs : List Cla) (c : Cla) : (cs ++ [c]).flatMap clM = cs.flatMap clM ++ clM c := by
  rw [List.flatMap_append, List.flatMap_cons, List.flatMap_nil, List.append_nil]
/-- a clause set down -/
theorem clFin {B : Int → Int} {N : Int} {p i a' : Int} {cs : List Cla} {c : Cla} {ω τ : Mem} {Q : RV → Mem → Prop} (hn : cs.length < 140) (ei : i = 140 * p + (cs.length : Int)) (hrw : RwM ω p cs) (f : FrL ω τ p) (g : Lv τ B N p 0 a' (cs.flatMap clM ++ clM c)) (wc : Wc ω τ i ((cs.flatMap clM).length : Int)) (e71 : τ 71 i = ((cs.flatMap clM).length : Int) + ((clT c).length : Int)) (hq : ∀ τ, FrL ω τ p → Lv τ B N p 0 a' ((cs ++ [c]).flatMap clM) → RwM τ p (cs ++ [c]) → Q rV τ) : Q rV (ups (ups τ 72 i (τ 68 p)) 69 p (τ 69 p + 1)) := by
  have hi : 140 * p ≤ i ∧ i < 140 * p + 140 := by omega
  have s : Sm τ (ups (ups τ 72 i (τ 68 p)) 69 p (τ 69 p + 1)) [69, 70, 71, 72] [] := (Sm.refl.ups rfl (Or.inl (by decide))).ups rfl (Or.inl (by decide))
  refine hq _ ((f.tr (frL_72 hi)).tr frL_69) ?_ ⟨?_, fun k c' hk => ?_⟩
  · rw [fl_app]; exact lv_row g s
  · rw [ups_hit, wc.1, hrw.1, List.length_append]; rfl
  · have bt : befM (cs ++ [c]) k = ((cs.take k).flatMap clM).length := by
      have lk := (List.getElem?_eq_some_iff.mp hk).1
      rw [List.length_append] at lk
      have lk2 : ([c] : List Cla).length = 1 := rfl
      rw [befM_take, List.take_append_of_le_length (by omega)]
    rw [bt]
    rw [ups_ne (show (70 : Nat) ≠ 69 by decide), ups_ne (show (71 : Nat) ≠ 69 by decide), ups_ne (show (72 : Nat) ≠ 69 by decide), ups_ne (show (70 : Nat) ≠ 72 by decide), ups_ne (show (71 : Nat) ≠ 72 by decide)]
    by_cases q : k = cs.length
    · subst q
      rw [List.getElem?_append_right (Nat.le_refl _), Nat.sub_self] at hk
      injection hk with hk
      subst hk
      rw [← ei, List.take_length, wc.2.1, e71, ups_hit, g.2.2.2.2.1, List.length_append]
      exact ⟨rfl, by push_cast; rfl, by push_cast; rfl⟩
    · have lt : k < cs.length := by
        have lk := (List.getElem?_eq_some_iff.mp hk).1
        rw [List.length_append] at lk
        have lk2 : ([c] : List Cla).length = 1 := rfl
        omega
      rw [List.getElem?_append_left lt] at hk
      have ne : (140 * p + (k : Int)) ≠ i := by omega
      have o := hrw.2 k c' hk
      rw [befM_take] at o
      rw [ups_fn ne, (wc.2.2 _ ne).1, (wc.2.2 _ ne).2.1, (wc.2.2 _ ne).2.2]
      exact o
/-- went wrong within a clause -/
theorem cl184F (d : Nat) {p i w X x2 : Int} {τ : Mem} {Q : RV → Mem → Prop} (hp : 0 ≤ p ∧ p < 5) (hi : 140 * p ≤ i ∧ i < 140 * p + 140) (hx : rg x2) (hw : 0 ≤ w ∧ w ≤ 240) (h : Fl τ p w X) (hq : ∀ τ', FrL τ τ' p → Fl τ' p w X → Q rV τ') : Ev (d + 157) mR_clause 184 [vR 64, vI i, vI x2] [] τ Q := by
  have fin : Q rV (ups (ups (ups τ 71 i (τ 70 i)) 72 i (τ 68 (τ 64 14))) 69 (τ 64 14) ((τ 69 (τ 64 14)) + 1)) := by
    rw [h.2.2]
    exact hq _ (((frL_71 hi).tr (frL_72 hi)).tr frL_69) (fl_row h (((Sm.refl.ups rfl (Or.inl (by decide))).ups rfl (Or.inl (by decide))).ups rfl (Or.inl (by decide))))
  have e14 : 0 ≤ τ 64 14 := by rw [h.2.2]; exact hp.1
  have e14b : τ 64 14 < 5 := by rw [h.2.2]; exact hp.2
  exact bR_clause_184 ⟨(by omega), (by omega), hx, fun _ => ⟨e14, e14b, fin⟩, fun _ => ⟨by rw [h.1]; exact ⟨by omega, by omega⟩, fun _ => ⟨e14, e14b, fin⟩, fun z => absurd z (by rw [h.1]; omega)⟩⟩
theorem cl40F (d : Nat) {p i w X : Int} {u2 : Option AV} {τ : Mem} {Q : RV → Mem → Prop} (hw : 0 ≤ w ∧ w ≤ 240) (h : Fl τ p w X) (hq : ∀ τ', FrL τ τ' p → Fl τ' p w X → Q rV τ') : Ev (d + 157) mR_clause 71 [vR 64, vI i, u2] [] τ Q :=
  bR_clause_71 ⟨by rw [h.1]; exact ⟨by omega, by omega⟩, fun z => absurd z (by rw [h.1]; omega), fun _ => hq _ (frL_of (frR_of (Sm.refl.ups rfl (Or.inr rfl)))) (fl_sm h (Sm.refl.ups rfl (Or.inr rfl)))⟩
/-- what is asked for behind a condition -/
theorem csqR {B : Int → Int} {N : Int} (hB : BTp B N) (d : Nat) {p i a : Int} {cs : List Cla} {t : List Tok} {ω τ : Mem} {Q : RV → Mem → Prop} (hp : 0 ≤ p ∧ p < 5) (hn : cs.length < 140) (ei : i = 140 * p + (cs.length : Int)) (a0 : 0 ≤ a) (a1 : a ≤ N) (hlen : ((cs.flatMap clM ++ t).length : Int) ≤ a) (hrw : RwM ω p cs) (f : FrL ω τ p) (g : Lv τ B N p 0 a (cs.flatMap clM ++ t)) (wc : Wc ω τ i ((cs.flatMap clM).length : Int)) (h0 : ∀ w, csq B N t a = .inl w → ∀ τ, FrL ω τ p → Fl τ p w 258 → Q rV τ) (h1 : ∀ a' c, csq B N t a = .inr (a', c) → ∀ τ, FrL ω τ p → Lv τ B N p 0 a' ((cs ++ [c]).flatMap clM) → RwM τ p (cs ++ [c]) → Q rV τ) : Ev (d + 157) mR_clause 184 [vR 64, vI i, vI 1] [] τ Q := by
  have hN := hB.1
  have r := (sk_r (B := B) (N := N) (a := a))
  have r2 := r.2 a1
  have b := hB.r (a := sk B N a) (by omega)
  have hi : 140 * p ≤ i ∧ i < 140 * p + 140 := by omega
  unfold csq at h0 h1
  have g1 : Lv (ups τ 71 i (τ 70 i)) B N p 0 a (cs.flatMap clM ++ t) := lv_row g (Sm.refl.ups rfl (Or.inl (by decide)))
  have f1 : FrL ω (ups τ 71 i (τ 70 i)) p := f.tr (frL_71 hi)
  have wc1 : Wc ω (ups τ 71 i (τ 70 i)) i ((cs.flatMap clM).length : Int) := wc.w71
  refine bR_clause_184 ⟨(by omega), (by omega), by decide, fun z => absurd z (by decide), fun _ => ⟨by rw [g.2.1]; decide, fun z => absurd g.2.1 z, fun _ => lookR hB (d + 154) ⟨by omega, by omega⟩ g1.1 (fun τ2 s t2 => ?_)⟩⟩
  have g2 := lv_lk g1 s t2
  have fr : FrR (ups τ 71 i (τ 70 i)) τ2 p := frR_of (s.mono (by decide) (by decide))
  have f2 := f1.tr (frL_of fr)
  have wc2 := wc1.sm fr
  have e14 := g2.2.2.2.1
  refine ⟨⟨by omega, by omega⟩, fun z => ⟨by rw [e14]; exact hp.1, by rw [e14]; exact hp.2, ?_⟩, fun z => ?_⟩
  · rw [if_pos z] at h0 h1
    have lt := (b.2.2 (by omega)).1
    rw [e14, t2.2.1, g2.2.2.2.2.1]
    have g3 := lv_row (lv_mv g2 (sk B N a + 1)) (τ := ups (ups τ2 64 3 (sk B N a + 1)) 71 i ((cs.flatMap clM ++ t).length : Int)) (Sm.refl.ups rfl (Or.inl (by decide)))
    have fr3 : FrR τ2 (ups τ2 64 3 (sk B N a + 1)) p := frR_of (Sm.refl.ups rfl (Or.inr rfl))
    have f3 : FrL ω (ups (ups τ2 64 3 (sk B N a + 1)) 71 i ((cs.flatMap clM ++ t).length : Int)) p := (f2.tr (frL_of fr3)).tr (frL_71 hi)
    have wc3 : Wc ω (ups (ups τ2 64 3 (sk B N a + 1)) 71 i ((cs.flatMap clM ++ t).length : Int)) i ((cs.flatMap clM).length : Int) := (wc2.sm fr3).w71
    have e71 : (ups (ups τ2 64 3 (sk B N a + 1)) 71 i ((cs.flatMap clM ++ t).length : Int)) 71 i = ((cs.flatMap clM ++ t).length : Int) := ups_hit
    generalize (ups (ups τ2 64 3 (sk B N a + 1)) 71 i ((cs.flatMap clM ++ t).length : Int)) = τ3 at *
    obtain ⟨p1, q1⟩ := sm_p hB 6 (sk B N a + 1) (by omega) (by omega)
    refine smKR' hB hp 6 (d + 156) (by decide) (by omega) (sk B N a + 1) (cs.flatMap clM ++ t) τ3 _ (by omega) (by omega) (by omega) g3 (fun w e τ5 f5 g5 => ?_) (fun b1 t1 e τ5 f5 g5 => ?_)
    · rw [e] at h0
      have e5 := g5.2.2
      refine ⟨by rw [e5]; exact hp.1, by rw [e5]; exact hp.2, ?_⟩
      rw [e5]
      exact h0 w rfl _ (((f3.tr (frL_of f5)).tr (frL_72 hi)).tr frL_69) (fl_row (fl_X g5 (by decide)) ((Sm.refl.ups rfl (Or.inl (by decide))).ups rfl (Or.inl (by decide))))
    · rw [e] at h1
      have e5 := g5.2.2.2.1
      refine ⟨by rw [e5]; exact hp.1, by rw [e5]; exact hp.2, ?_⟩
      rw [e5]
      have g5' : Lv τ5 B N p 0 b1 (cs.flatMap clM ++ clM (some t, t1)) := by
        show Lv τ5 B N p 0 b1 (cs.flatMap clM ++ (t ++ t1))
        rw [← List.append_assoc]; exact g5
      refine clFin hn ei hrw (f3.tr (frL_of f5)) g5' (wc3.sm f5) ?_ (h1 b1 (some t, t1) rfl)
      rw [f5.1.1 71 rfl, e71, List.length_append]
      push_cast; rfl
  · rw [if_neg z] at h0
    exact badR (d + 155) g2.2.1 t2 (fun τ3 s3 t3 e3 => h0 _ rfl τ3 (f2.tr (frL_of (frR_of (s3.mono (by decide) (by decide))))) (fl_X (lv_fl g2 (s3.mono (by decide) (by decide)) e3 (show ((cs.flatMap clM ++ t).length : Int) ≤ 240 by omega)) (by decide)))
theorem tclR {B : Int → Int} {N : Int} (hB : BTp B N) (d : Nat) {p a : Int} {cs : List Cla} {ω : Mem} {Q : RV → Mem → Prop} (hp : 0 ≤ p ∧ p < 5) (a0 : 0 ≤ a) (a1 : a ≤ N) (hc : 2 * (cs.length : Int) ≤ a) (hlen : ((cs.flatMap clM).length : Int) ≤ a) (h : Lv ω B N p 0 a (cs.flatMap clM)) (hrw : RwM ω p cs) (h0 : ∀ w, cla B N a = .inl w → ∀ τ, FrL ω τ p → Fl τ p w 258 → Q rV τ) (h1 : ∀ a' c, cla B N a = .inr (a', c) → ∀ τ, FrL ω τ p → Lv τ B N p 0 a' ((cs ++ [c]).flatMap clM) → RwM τ p (cs ++ [c]) → Q rV τ) : Cl (d + 157) mR_clause [aR 64] ω Q := by
  have hN := hB.1
  have hn : cs.length < 140 := by omega
  have e14 := h.2.2.2.1
  obtain ⟨i, ei⟩ : ∃ i, i = 140 * p + (cs.length : Int) := ⟨_, rfl⟩
  have hi : 140 * p ≤ i ∧ i < 140 * p + 140 := by omega
  have r := (sk_r (B := B) (N := N) (a := a))
  have r2 := r.2 a1
  have b := hB.r (a := sk B N a) (by omega)
  unfold cla at h0 h1
  refine bR_clause_in ⟨by rw [e14]; exact hp.1, by rw [e14]; exact hp.2, by rw [h.2.1]; decide, fun z => absurd h.2.1 z, fun _ => lookR hB (d + 154) ⟨by omega, by omega⟩ h.1 (fun τ s t => ?_)⟩
  rw [e14, hrw.1, ← ei]
  have g := lv_lk h s t
  have fr : FrR ω τ p := frR_of (s.mono (by decide) (by decide))
  have len240 : ((cs.flatMap clM).length : Int) ≤ 240 := by omega
  refine ⟨⟨by omega, by omega⟩, fun y => ?_, fun y => ?_⟩
  · rw [if_neg (fun q => q y)] at h0 h1
    have lt := (b.2.2 (by omega)).1
    have u := (sk_r (B := B) (N := N) (a := sk B N a + 1))
    have u2 := u.2 (by omega)
    have g1 := lv_mv g (sk B N a + 1)
    have fr1 : FrR ω (ups τ 64 3 (sk B N a + 1)) p := fr.tr (frR_of (Sm.refl.ups rfl (Or.inr rfl)))
    refine bR_clause_40 ⟨by rw [g.2.1]; decide, fun z => absurd g.2.1 z, fun _ => ?_⟩
    rw [t.2.1]
    generalize (ups τ 64 3 (sk B N a + 1)) = τ1 at *
    generalize sk B N a = A at *
    refine lookR hB (d + 154) ⟨by omega, by omega⟩ g1.1 (fun τ2 s2 t2 => ?_)
    have b2 := hB.r (a := sk B N (A + 1)) (by omega)
    have g2 := lv_lk g1 s2 t2
    have fr2 : FrR ω τ2 p := fr1.tr (frR_of (s2.mono (by decide) (by decide)))
    refine ⟨⟨by omega, by omega⟩, fun y2 => ?_, fun y2 => ?_⟩
    · rw [if_neg (fun q => q y2)] at h0 h1
      have lt2 := (b2.2.2 (by omega)).1
      generalize sk B N (A + 1) = A2 at *
      have v := (sk_r (B := B) (N := N) (a := A2 + 1))
      have v2 := v.2 (by omega)
      have b3 := hB.r (a := sk B N (A2 + 1)) (by omega)
      refine bR_clause_71 ⟨by rw [g2.2.1]; decide, fun _ => ⟨by rw [g2.2.2.2.1]; exact hp.1, by rw [g2.2.2.2.1]; exact hp.2, (by omega), (by omega), ?_⟩, fun z => absurd g2.2.1 z⟩
      rw [g2.2.2.2.1, t2.2.1, g2.2.2.2.2.1]
      have fr3 : FrR ω (ups τ2 64 3 (A2 + 1)) p := fr2.tr (frR_of (Sm.refl.ups rfl (Or.inr rfl)))
      have g3 := lv_row (lv_mv g2 (A2 + 1)) (τ := ups (ups τ2 64 3 (A2 + 1)) 70 i ((cs.flatMap clM).length : Int)) (Sm.refl.ups rfl (Or.inl (by decide)))
      have f3 : FrL ω (ups (ups τ2 64 3 (A2 + 1)) 70 i ((cs.flatMap clM).length : Int)) p := (frL_of fr3).tr (frL_70 hi)
      have wc3 : Wc ω (ups (ups τ2 64 3 (A2 + 1)) 70 i ((cs.flatMap clM).length : Int)) i ((cs.flatMap clM).length : Int) := ⟨by rw [ups_ne (show (69 : Nat) ≠ 70 by decide), fr3.1.1 69 rfl], ups_hit, fun j hj => by rw [ups_fn hj, ups_ne (show (71 : Nat) ≠ 70 by decide), ups_ne (show (72 : Nat) ≠ 70 by decide), fr3.1.1 70 rfl, fr3.1.1 71 rfl, fr3.1.1 72 rfl]; exact ⟨rfl, rfl, rfl⟩⟩
      generalize (ups (ups τ2 64 3 (A2 + 1)) 70 i ((cs.flatMap clM).length : Int)) = τ3 at *
      refine lookR hB (d + 154) ⟨by omega, by omega⟩ g3.1 (fun τ4 s4 t4 => ?_)
      have g4 := lv_lk g3 s4 t4
      have fr4 : FrR τ3 τ4 p := frR_of (s4.mono (by decide) (by decide))
      have f4 := f3.tr (frL_of fr4)
      have wc4 := wc3.sm fr4
      have skk : sk B N (sk B N (A2 + 1)) = sk B N (A2 + 1) := sk_sk
      generalize sk B N (A2 + 1) = A3 at *
      -- a condition first
      have cond : ∀ τ5, (hr B N A3 = 33 ∨ hr B N A3 = 40) → FrL ω τ5 p → Lv τ5 B N p 0 A3 (cs.flatMap clM) → Wc ω τ5 i ((cs.flatMap clM).length : Int) → Ev (d + 157) mR_clause 128 [vR 64, vI i, vU] [aI 1] τ5 Q := by
        intro τ5 y3 f5 g5 wc5
        rw [if_pos y3] at h0 h1
        rw [cdt_b (fun s => csq B N s.2 s.1)] at h0 h1
        obtain ⟨p1, q1⟩ := cdt_p hB (unK_p hB 6) A3 (by omega) (by omega)
        refine bR_clause_128 ⟨by decide, fun z => absurd z (by decide), fun _ => condR' hB hp (d + 156) (by omega) A3 _ τ5 _ (by omega) (by omega) (by omega) g5 (fun w e τ6 f6 g6 => ?_) (fun b1 t1 e τ6 f6 g6 => ?_)⟩
        · rw [e] at h0
          exact cl184F d hp hi (by decide) (by have := p1 w e; omega) g6 (fun τ7 f7 g7 => h0 w rfl τ7 ((f5.tr (frL_of f6)).tr f7) g7)
        · rw [e] at h0 h1
          have q1' := q1 b1 t1 e
          have len : (((cs.flatMap clM ++ t1).length : Nat) : Int) = ((cs.flatMap clM).length : Int) + (t1.length : Int) := by rw [List.length_append]; push_cast; rfl
          exact csqR hB d hp hn ei (by omega) (by omega) (by rw [len]; omega) hrw (f5.tr (frL_of f6)) g6 (wc5.sm f6) h0 h1
      refine ⟨⟨by omega, by omega⟩, fun y3 => cond τ4 (Or.inl y3) f4 g4 wc4, fun y3 => lookR hB (d + 154) ⟨by omega, by omega⟩ t4 (fun τ5 s5 t5 => ?_)⟩
      rw [skk] at t5 ⊢
      have g5 := lv_lk g4 s5 t5
      have fr5 : FrR τ4 τ5 p := frR_of (s5.mono (by decide) (by decide))
      have f5 := f4.tr (frL_of fr5)
      have wc5 := wc4.sm fr5
      refine ⟨⟨by omega, by omega⟩, fun y4 => ?_, fun y4 => cond τ5 (Or.inr y4) f5 g5 wc5⟩
      rw [if_neg (fun q => by rcases q with q | q; exact y3 q; exact y4 q)] at h0 h1
      obtain ⟨p1, q1⟩ := sm_p hB 6 A3 (by omega) (by omega)
      refine bR_clause_128 ⟨by decide, fun _ => smKR' hB hp 6 (d + 156) (by decide) (by omega) A3 _ τ5 _ (by omega) (by omega) (by omega) g5 (fun w e τ6 f6 g6 => ?_) (fun b1 t1 e τ6 f6 g6 => ?_), fun z => absurd rfl z⟩
      · rw [e] at h0
        have pw := p1 w e
        refine ⟨by rw [g6.1]; exact ⟨by omega, by omega⟩, fun _ => bR_clause_167 ⟨by decide, fun _ => cl184F d hp hi (by decide) (by omega) g6 (fun τ7 f7 g7 => h0 w rfl τ7 ((f5.tr (frL_of f6)).tr f7) (fl_X g7 (by decide))), fun z => absurd rfl z⟩, fun z => absurd z (by rw [g6.1]; omega)⟩
      · rw [e] at h0 h1
        have q1' := q1 b1 t1 e
        have len : (((cs.flatMap clM ++ t1).length : Nat) : Int) = ((cs.flatMap clM).length : Int) + (t1.length : Int) := by rw [List.length_append]; push_cast; rfl
        have x := (sk_r (B := B) (N := N) (a := b1))
        have x2 := x.2 (by omega)
        have b4 := hB.r (a := sk B N b1) (by omega)
        refine ⟨by rw [g6.2.1]; decide, fun z => absurd g6.2.1 z, fun _ => lookR hB (d + 154) ⟨by omega, by omega⟩ g6.1 (fun τ7 s7 t7 => ?_)⟩
        have g7 := lv_lk g6 s7 t7
        have fr7 : FrR τ5 τ7 p := f6.tr (frR_of (s7.mono (by decide) (by decide)))
        have f7 := f5.tr (frL_of fr7)
        have wc7 := wc5.sm fr7
        change ∀ w, (if cmK (hr B N (sk B N b1)) then _ else _) = _ → _ at h0
        change ∀ a' c, (if cmK (hr B N (sk B N b1)) then _ else _) = _ → _ at h1
        refine ⟨⟨by omega, by omega⟩, fun y5 => bR_clause_167 ⟨by decide, fun z => absurd z (by decide), fun _ => ?_⟩, fun y5 => bR_clause_167 ⟨by decide, fun _ => ?_, fun z => absurd rfl z⟩⟩
        · rw [if_pos y5] at h0 h1
          obtain ⟨p2, q2⟩ := cmG_p hB (sm_p hB 6) (sk B N b1) (by omega) (by omega)
          refine compareR hB (d + 91) hp (D := 0) (X := 255) (by decide) (sm_p hB 6) (smKR' hB hp 6 _ (by decide) (by omega)) (sk B N b1) _ τ7 _ (by omega) (by omega) (by rw [len]; omega) g7 (fun w e2 τ8 f8 g8 => ?_) (fun b2 t2' e2 τ8 f8 g8 => ?_)
          · rw [e2] at h0
            have pw := p2 w e2
            exact moreF hN (d + 89) pw g8 (cl184F d hp hi (by decide) (by omega) g8 (fun τ9 f9 g9 => h0 w rfl τ9 ((f7.tr (frL_of f8)).tr f9) (fl_X g9 (by decide))))
          · rw [e2] at h0 h1
            have q2' := q2 b2 t2' e2
            have len2 : (((cs.flatMap clM ++ t1 ++ t2').length : Nat) : Int) = ((cs.flatMap clM).length : Int) + (t1.length : Int) + (t2'.length : Int) := by rw [List.length_append]; push_cast; rw [len]
            have mp := moL_p hB (unK_p hB 6) 241 b2 false (by omega) (by omega)
            refine moreR' hB hp (d + 156) (by omega) b2 _ τ8 _ (by omega) (by omega) (by rw [len2]; omega) g8 (fun w e3 τ9 f9 g9 => ?_) (fun b3 t3 e3 τ9 f9 g9 => ?_)
            · have pw := mp.1 w e3
              refine cl184F d hp hi (by decide) (by omega) g9 (fun τ10 f10 g10 => h0 w ?_ τ10 (((f7.tr (frL_of f8)).tr (frL_of f9)).tr f10) g10)
              show bnR (moL B N (unK B N 6) 241 b2 false) _ = _
              rw [show moL B N (unK B N 6) 241 b2 false = .inl w from e3]; rfl
            · have q3 := mp.2 b3 t3 e3
              rw [if_neg (by decide)] at q3
              have len3 : (((cs.flatMap clM ++ ((t1 ++ t2') ++ t3)).length : Nat) : Int) = ((cs.flatMap clM).length : Int) + (t1.length : Int) + (t2'.length : Int) + (t3.length : Int) := by rw [List.length_append, List.length_append, List.length_append]; push_cast; omega
              have g9' : Lv τ9 B N p 0 b3 (cs.flatMap clM ++ ((t1 ++ t2') ++ t3)) := by
                rw [List.append_assoc, List.append_assoc] at g9
                rw [List.append_assoc]; exact g9
              have eq3 : bnR (moL B N (unK B N 6) 241 b2 false) (fun s => csq B N ((t1 ++ t2') ++ s.2) s.1) = csq B N ((t1 ++ t2') ++ t3) b3 := by
                rw [show moL B N (unK B N 6) 241 b2 false = .inr (b3, t3) from e3]; rfl
              exact csqR hB d hp hn ei (by omega) (by omega) (by rw [len3]; omega) hrw ((f7.tr (frL_of f8)).tr (frL_of f9)) g9' ((wc7.sm f8).sm f9) (fun w e4 => h0 w (eq3.trans e4)) (fun a' c e4 => h1 a' c (eq3.trans e4))
        · rw [if_neg y5] at h1
          have e7 := g7.2.2.2.1
          refine bR_clause_184 ⟨(by omega), (by omega), by decide, fun _ => ⟨by rw [e7]; exact hp.1, by rw [e7]; exact hp.2, ?_⟩, fun z => absurd rfl z⟩
          rw [e7]
          have g8 : Lv (ups τ7 71 i (τ7 70 i)) B N p 0 (sk B N b1) (cs.flatMap clM ++ clM (none, t1)) := lv_row g7 (Sm.refl.ups rfl (Or.inl (by decide)))
          have fin := clFin (Q := Q) hn ei hrw (f7.tr (frL_71 hi)) g8 (wc7.w71 (v := τ7 70 i)) (by rw [ups_hit, wc7.2.1]; exact (Int.add_zero _).symm) (h1 (sk B N b1) (none, t1) rfl)
          rw [ups_ne (show (68 : Nat) ≠ 71 by decide), ups_ne (show (69 : Nat) ≠ 71 by decide)] at fin
          exact fin
    · rw [if_pos y2] at h0
      exact badR (d + 155) g2.2.1 t2 (fun τ3 s3 t3 e3 => cl40F d (by omega) (lv_fl g2 (s3.mono (by decide) (by decide)) e3 len240) (fun τ4 f4 g4 => h0 _ rfl τ4 (((frL_of fr2).tr (frL_of (frR_of (s3.mono (by decide) (by decide))))).tr f4) (fl_X g4 (by decide))))
  · rw [if_pos y] at h0
    refine badR (d + 155) g.2.1 t (fun τ3 s3 t3 e3 => ?_)
    have g3 : Fl τ3 p (sk B N a) 240 := lv_fl g (s3.mono (by decide) (by decide)) e3 len240
    refine bR_clause_40 ⟨by rw [g3.1]; exact ⟨by omega, by omega⟩, fun _ => cl40F d (by omega) (fl_sm g3 (Sm.refl.ups rfl (Or.inr rfl))) (fun τ4 f4 g4 => h0 _ rfl τ4 (((frL_of fr).tr (frL_of (frR_of ((s3.mono (by decide) (by decide)).ups rfl (Or.inr rfl))))).tr f4) (fl_X g4 (by decide))), fun z => absurd z (by rw [g3.1]; omega)⟩
theorem lawLR {B : Int → Int} {N : Int} (hB : BTp B N) (d : Nat) {p : Int} (hp : 0 ≤ p ∧ p < 5) {Q : RV → Mem → Prop} : ∀ (n : Nat) (a : Int) (cs : List Cla) (τ : Mem), 241 ≤ a + (n : Int) → 0 ≤ a → a ≤ N → 2 * (cs.length : Int) ≤ a → ((cs.flatMap clM).length : Int) ≤ a → Lv τ B N p 0 a (cs.flatMap clM) → RwM τ p cs → (∀ w, law B N n a = .inl w → ∀ τ', FrL τ τ' p → Q (rI w) τ') → (∀ cs', law B N n a = .inr cs' → ∀ τ', FrL τ τ' p → EmR τ' p ((cs ++ cs').flatMap clM) → RwM τ' p (cs ++ cs') → Q (rI (-1)) τ') → Cl (d + 157) mR_clause [aR 64] τ (fun r3 τ4 => oV r3 (Ev (d + 158) mR_readLaw 9 [vR 64, vI p] [] τ4 Q)) := by
  have hN := hB.1
  intro n
  induction n with
  | zero => intro a cs τ hn; omega
  | succ n ih =>
    intro a cs τ hn a0 a1 hc hlen h hrw h0 h1
    unfold law at h0 h1
    obtain ⟨p1, q1⟩ := cla_p hB a0 a1
    refine tclR hB d hp a0 a1 hc hlen h hrw (fun w e τ2 f2 g2 => ?_) (fun b1 c1 e τ2 f2 g2 r2 => ?_)
    · rw [e] at h0
      have pw := p1 w e
      have fin := h0 w rfl τ2 f2
      refine bR_readLaw_9 ⟨by rw [g2.1]; exact ⟨by omega, by omega⟩, fun _ => bR_atEnd_in (d := d + 154) ⟨by rw [g2.1]; exact ⟨by omega, by omega⟩, fun _ => by rw [g2.1]; exact fin, fun z => absurd z (by rw [g2.1]; omega)⟩, fun z => absurd z (by rw [g2.1]; omega)⟩
    · rw [e] at h0 h1
      have q1' := q1 b1 c1 e
      have x := (sk_r (B := B) (N := N) (a := b1))
      have x2 := x.2 (by omega)
      have b := hB.r (a := sk B N b1) (by omega)
      change ∀ w, (if hr B N (sk B N b1) = -1 then _ else if hr B N (sk B N b1) = 59 then _ else _) = _ → _ at h0
      change ∀ cs', (if hr B N (sk B N b1) = -1 then _ else if hr B N (sk B N b1) = 59 then _ else _) = _ → _ at h1
      have lenF : (((cs ++ [c1]).flatMap clM).length : Int) = ((cs.flatMap clM).length : Int) + ((clM c1).length : Int) := by rw [fl_app, List.length_append]; push_cast; rfl
      refine bR_readLaw_9 ⟨by rw [g2.2.1]; decide, fun z => absurd g2.2.1 z, fun _ => lookR hB (d + 155) ⟨by omega, by omega⟩ g2.1 (fun τ3 s3 t3 => ?_)⟩
      have g3 := lv_lk g2 s3 t3
      have fr3 : FrR τ2 τ3 p := frR_of (s3.mono (by decide) (by decide))
      have f3 := f2.tr (frL_of fr3)
      have rw3 : ∀ ζ, FrR τ2 ζ p → RwM ζ p (cs ++ [c1]) := fun ζ f => by
        unfold RwM
        rw [f.1.1 69 rfl, f.1.1 70 rfl, f.1.1 71 rfl, f.1.1 72 rfl]; exact r2
      refine ⟨⟨by omega, by omega⟩, fun y => bR_atEnd_in (d := d + 154) ⟨by rw [g3.2.1]; decide, fun z => absurd g3.2.1 z, fun _ => lookR hB (d + 154) ⟨by omega, by omega⟩ g3.1 (fun τ4 s4 t4 => ?_)⟩, fun y => ?_⟩
      · rw [sk_sk] at t4 ⊢
        have g4 := lv_lk g3 s4 t4
        have fr4 : FrR τ3 τ4 p := frR_of (s4.mono (by decide) (by decide))
        refine ⟨⟨by omega, by omega⟩, fun z => ?_, fun z => ?_⟩
        · rw [if_pos z] at h1
          rw [g4.2.1]
          exact h1 [c1] rfl τ4 (f3.tr (frL_of fr4)) g4.2.2.2 (rw3 τ4 (fr3.tr fr4))
        · rw [if_neg z, if_neg y] at h0
          refine badR (d + 155) g4.2.1 t4 (fun τ5 s5 t5 e5 => ?_)
          rw [e5]
          exact h0 _ rfl τ5 ((f3.tr (frL_of fr4)).tr (frL_of (frR_of (s5.mono (by decide) (by decide)))))
      · have ne : ¬ hr B N (sk B N b1) = -1 := by omega
        rw [if_neg ne, if_pos y] at h0 h1
        have lt := (b.2.2 ne).1
        have g4 := lv_mv g3 (sk B N b1 + 1)
        have fr4 : FrR τ2 (ups τ3 64 3 (sk B N b1 + 1)) p := fr3.tr (frR_of (Sm.refl.ups rfl (Or.inr rfl)))
        rw [t3.2.1]
        refine ih (sk B N b1 + 1) (cs ++ [c1]) _ (by omega) (by omega) (by omega) (by rw [List.length_append]; push_cast; rw [show (([c1] : List Cla).length : Int) = 1 from rfl]; omega) (by rw [lenF]; omega) g4 (rw3 _ fr4) (fun w e2 τ5 f5 => ?_) (fun cs2 e2 τ5 f5 g5 r5 => ?_)
        · refine h0 w ?_ τ5 ((f2.tr (frL_of fr4)).tr f5)
          rw [e2]; rfl
        · have ea : cs ++ [c1] ++ cs2 = cs ++ (c1 :: cs2) := by rw [List.append_assoc]; rfl
          rw [ea] at g5 r5
          refine h1 (c1 :: cs2) ?_ τ5 ((f2.tr (frL_of fr4)).tr f5) g5 r5
          rw [e2]; rfl
/-- a taste read, by the reference -/
theorem tasteR {B : Int → Int} {N : Int} (hB : BTp B N) (d : Nat) {p : Int} {ω : Mem} (hp : 0 ≤ p ∧ p < 5) (e2 : ω 64 2 = N) (e65 : ∀ i, 0 ≤ i → i < N → ω 65 i = B i) {Q : RV → Mem → Prop} (h0 : ∀ w, law B N 241 0 = .inl w → ∀ τ, FrL ω τ p → Q (rI w) τ) (h1 : ∀ cs, law B N 241 0 = .inr cs → ∀ τ, FrL ω τ p → EmR τ p (cs.flatMap clM) → RwM τ p cs → Q (rI (-1)) τ) : Cl (d + 158) mR_readLaw [aR 64, aI p] ω Q := by
  have hN := hB.1
  refine bR_readLaw_in (bR_open_in (d := d + 156) ⟨hp.1, hp.2, ?_⟩)
  have s : Sm ω (ups (ups (ups (ups (ups (ups ω 64 14 p) 64 3 0) 64 4 (-1)) 64 5 0) 68 p 0) 69 p 0) [64, 68, 69] [3, 4, 5, 14] := (((((Sm.refl.ups rfl (Or.inr rfl)).ups rfl (Or.inr rfl)).ups rfl (Or.inr rfl)).ups rfl (Or.inr rfl)).ups rfl (Or.inl (by decide))).ups rfl (Or.inl (by decide))
  have f : FrL ω (ups (ups (ups (ups (ups (ups ω 64 14 p) 64 3 0) 64 4 (-1)) 64 5 0) 68 p 0) 69 p 0) p := ⟨s.mono (by decide) (by decide), fun j _ => by rw [s.1 66 rfl, s.1 67 rfl]; exact ⟨rfl, rfl⟩, fun j hj => ⟨by rw [ups_ne (by decide), ups_fn hj, ups_ne (by decide), ups_ne (by decide), ups_ne (by decide), ups_ne (by decide)], by rw [ups_fn hj, ups_ne (by decide), ups_ne (by decide), ups_ne (by decide), ups_ne (by decide), ups_ne (by decide)]⟩, fun j _ => by rw [s.1 70 rfl, s.1 71 rfl, s.1 72 rfl]; exact ⟨rfl, rfl, rfl⟩⟩
  have q69 : (ups (ups (ups (ups (ups (ups ω 64 14 p) 64 3 0) 64 4 (-1)) 64 5 0) 68 p 0) 69 p 0) 69 p = 0 := ups_hit
  have q68 : (ups (ups (ups (ups (ups (ups ω 64 14 p) 64 3 0) 64 4 (-1)) 64 5 0) 68 p 0) 69 p 0) 68 p = 0 := by rw [ups_ne (by decide), ups_hit]
  have q5 : (ups (ups (ups (ups (ups (ups ω 64 14 p) 64 3 0) 64 4 (-1)) 64 5 0) 68 p 0) 69 p 0) 64 5 = 0 := by rw [ups_ne (by decide), ups_ne (by decide), ups_hit]
  have q4 : (ups (ups (ups (ups (ups (ups ω 64 14 p) 64 3 0) 64 4 (-1)) 64 5 0) 68 p 0) 69 p 0) 64 4 = -1 := by rw [ups_ne (by decide), ups_ne (by decide), ups_fn (by decide), ups_hit]
  have q3 : (ups (ups (ups (ups (ups (ups ω 64 14 p) 64 3 0) 64 4 (-1)) 64 5 0) 68 p 0) 69 p 0) 64 3 = 0 := by rw [ups_ne (by decide), ups_ne (by decide), ups_fn (by decide), ups_fn (by decide), ups_hit]
  have q14 : (ups (ups (ups (ups (ups (ups ω 64 14 p) 64 3 0) 64 4 (-1)) 64 5 0) 68 p 0) 69 p 0) 64 14 = p := by rw [ups_ne (by decide), ups_ne (by decide), ups_fn (by decide), ups_fn (by decide), ups_fn (by decide), ups_hit]
  generalize (ups (ups (ups (ups (ups (ups ω 64 14 p) 64 3 0) 64 4 (-1)) 64 5 0) 68 p 0) 69 p 0) = υ at *
  exact lawLR hB d hp 241 0 [] υ (by decide) (Int.le_refl _) hN.1 (by decide) (by decide) ⟨⟨by rw [s.2 2 rfl]; exact e2, q3, fun i i0 i1 => by rw [s.1 65 rfl]; exact e65 i i0 i1⟩, q4, q5, q14, q68, fun j v hj => by cases hj⟩ ⟨q69, fun k c hk => by cases hk⟩ (fun w e τ f2 => h0 w e τ (f.tr f2)) (fun cs e τ f2 g r => h1 cs e τ (f.tr f2) g r)
