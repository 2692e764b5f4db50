/-! ===== A DAY'S END ===== -/
/-- pledges of a row as a list, each as what it tells by number -/
abbrev PlE : Type := Int → Int
def PlM (m : Int → Int) (l : List PlE) : Prop := m 73 = (l.length : Int) ∧ l.length ≤ 8 ∧ ∀ (k : Nat) (e : PlE), l[k]? = some e → ∀ w : Int, 0 ≤ w → w < 5 → m (74 + 5 * (k : Int) + w) = e w
def PlC (c : Int → Int) (l : List PlE) : Prop := c 1 = (l.length : Int) ∧ l.length ≤ 8 ∧ ∀ (k : Nat) (e : PlE), l[k]? = some e → ∀ w : Int, 0 ≤ w → w < 5 → c (75 + 5 * (k : Int) + w) = e w
def plsM (m : Int → Int) : List PlE := (List.range (m 73).toNat).map (fun (k : Nat) (w : Int) => if 0 ≤ w ∧ w < 5 then m (74 + 5 * (k : Int) + w) else 0)
theorem plsM_ok {m : Int → Int} (h : 0 ≤ m 73 ∧ m 73 ≤ 8) : PlM m (plsM m) := by
  have hl : (plsM m).length = (m 73).toNat := by unfold plsM; simp
  refine ⟨by rw [hl]; omega, by rw [hl]; omega, fun k e he w w0 w1 => ?_⟩
  unfold plsM at he
  rw [List.getElem?_map] at he
  cases hq : (List.range (m 73).toNat)[k]? with
  | none => rw [hq] at he; cases he
  | some j =>
    rw [hq] at he
    have hj : j = k := by
      have := List.getElem?_eq_some_iff.mp hq
      obtain ⟨h1, h2⟩ := this
      rw [List.getElem_range] at h2; exact h2.symm
    subst hj
    cases he
    exact (if_pos ⟨w0, w1⟩).symm
theorem PlC.of {c m : Int → Int} {l : List PlE} (h : RowS c m) (g : PlM m l) : PlC c l := by
  obtain ⟨g1, g2, g3⟩ := g
  refine ⟨by rw [h.1.2, g1], g2, fun k e he w w0 w1 => ?_⟩
  have hk : k < l.length := (List.getElem?_eq_some_iff.mp he).1
  have := h.2.2.2 (5 * (k : Int) + w) (by omega) (by omega)
  rw [Int.add_assoc, this, ← Int.add_assoc]
  exact g3 k e he w w0 w1
theorem PlM.drop {m : Int → Int} {l : List PlE} (h : PlM m l) {k : Nat} (hk : k < l.length) : PlM (dropM m (k : Int)) (l.eraseIdx k) := by
  obtain ⟨g1, g2, g3⟩ := h
  have hl : (l.eraseIdx k).length = l.length - 1 := List.length_eraseIdx_of_lt hk
  refine ⟨?_, by omega, fun j e he w w0 w1 => ?_⟩
  · unfold dropM; rw [fu_hit, hl]; omega
  · have hj : j < (l.eraseIdx k).length := (List.getElem?_eq_some_iff.mp he).1
    rw [List.getElem?_eraseIdx] at he
    rw [dropM_at (by omega) (by omega) (by omega) w0 w1]
    by_cases q : j < k
    · rw [if_pos q] at he
      rw [if_pos (by omega)]; exact g3 j e he w w0 w1
    · rw [if_neg q] at he
      rw [if_neg (by omega)]
      have := g3 (j + 1) e he w w0 w1
      rw [show (((j + 1 : Nat) : Int)) = (j : Int) + 1 by omega] at this
      exact this
theorem PlC.drop {c : Int → Int} {l : List PlE} (h : PlC c l) {k : Nat} (hk : k < l.length) : PlC (dropC c (k : Int)) (l.eraseIdx k) := by
  obtain ⟨g1, g2, g3⟩ := h
  have hl : (l.eraseIdx k).length = l.length - 1 := List.length_eraseIdx_of_lt hk
  refine ⟨?_, by omega, fun j e he w w0 w1 => ?_⟩
  · unfold dropC; rw [fu_hit, hl]; omega
  · have hj : j < (l.eraseIdx k).length := (List.getElem?_eq_some_iff.mp he).1
    rw [List.getElem?_eraseIdx] at he
    unfold dropC
    rw [fu_ne (by omega)]
    unfold cpy
    by_cases q : j < k
    · rw [if_pos q] at he
      rw [if_neg (by omega)]; exact g3 j e he w w0 w1
    · rw [if_neg q] at he
      have := g3 (j + 1) e he w w0 w1
      rw [if_pos (by omega), show 75 + ((k : Int) + 1) * 5 + 0 + (75 + 5 * (j : Int) + w - (75 + (k : Int) * 5 + 0)) = 75 + 5 * ((j + 1 : Nat) : Int) + w by omega]
      exact this
theorem PlM.fu {m : Int → Int} {l : List PlE} (h : PlM m l) {i v : Int} (hi : i < 73) : PlM (fu m i v) l :=
  ⟨by rw [fu_ne (by omega)]; exact h.1, h.2.1, fun k e he w w0 w1 => by rw [fu_ne (by omega)]; exact h.2.2 k e he w w0 w1⟩
theorem PlC.fu {m : Int → Int} {l : List PlE} (h : PlC m l) {i v : Int} (hi : i < 75) (h1 : i ≠ 1) : PlC (fu m i v) l :=
  ⟨by rw [fu_ne (by omega)]; exact h.1, h.2.1, fun k e he w w0 w1 => by rw [fu_ne (by omega)]; exact h.2.2 k e he w w0 w1⟩
/-- how many of those due go to a place of firsts -/
def cntp (D : Int) : List PlE → Int → Int
  | [], _ => 0
  | e :: r, i => (if e 4 ≤ D ∧ 8 * e 1 + e 2 = i then 1 else 0) + cntp D r i
def ndue (D : Int) : List PlE → Int
  | [] => 0
  | e :: r => (if e 4 ≤ D then 1 else 0) + ndue D r
def nd (D : Int) (e : PlE) : Bool := decide (D < e 4)
theorem cntp_app {D i : Int} : ∀ l r : List PlE, cntp D (l ++ r) i = cntp D l i + cntp D r i
  | [], r => by show _ = 0 + _; rw [Int.zero_add]; rfl
  | e :: l, r => by show _ + cntp D (l ++ r) i = _ + cntp D l i + _; rw [cntp_app l r]; omega
theorem cntp_rev {D i : Int} : ∀ l : List PlE, cntp D l.reverse i = cntp D l i
  | [] => rfl
  | e :: l => by
    rw [List.reverse_cons, cntp_app, cntp_rev l]
    show _ + ((if e 4 ≤ D ∧ 8 * e 1 + e 2 = i then 1 else 0) + 0) = (if e 4 ≤ D ∧ 8 * e 1 + e 2 = i then 1 else 0) + _
    omega
theorem cntp_r {D i : Int} : ∀ l : List PlE, 0 ≤ cntp D l i ∧ cntp D l i ≤ (l.length : Int)
  | [] => ⟨Int.le_refl _, Int.le_refl _⟩
  | e :: l => by
    have := cntp_r (D := D) (i := i) l
    unfold cntp
    rw [List.length_cons]
    split <;> omega
theorem sumI_add {f g : Int → Int} : ∀ n : Nat, sumI (fun i => f i + g i) n = sumI f n + sumI g n
  | 0 => rfl
  | n + 1 => by
    show sumI (fun i => f i + g i) n + (f _ + g _) = sumI f n + f _ + (sumI g n + g _)
    rw [sumI_add n]; omega
theorem sumI_0 : ∀ n : Nat, sumI (fun _ => 0) n = 0
  | 0 => rfl
  | n + 1 => by show sumI (fun _ => 0) n + 0 = 0; rw [sumI_0 n]; rfl
theorem sumI_cntp {D : Int} : ∀ l : List PlE, (∀ e ∈ l, 0 ≤ 8 * e 1 + e 2 ∧ 8 * e 1 + e 2 < 48) → sumI (cntp D l) 48 = ndue D l
  | [], _ => sumI_0 48
  | e :: r, h => by
    have ih := sumI_cntp (D := D) r (fun e he => h e (List.mem_cons_of_mem _ he))
    have he := h e List.mem_cons_self
    show sumI (fun i => (if e 4 ≤ D ∧ 8 * e 1 + e 2 = i then 1 else 0) + cntp D r i) 48 = (if e 4 ≤ D then 1 else 0) + ndue D r
    rw [sumI_add, ih]
    congr 1
    by_cases q : e 4 ≤ D
    · rw [if_pos q]
      have e1 : (fun i => if e 4 ≤ D ∧ 8 * e 1 + e 2 = i then (1 : Int) else 0) = fu (fun _ => 0) (8 * e 1 + e 2) 1 := by
        funext i; unfold fu
        by_cases z : i = 8 * e 1 + e 2
        · rw [if_pos ⟨q, z.symm⟩, if_pos z]
        · rw [if_neg (fun y => z y.2.symm), if_neg z]
      rw [e1, sumI_upd he.1, if_pos (show 8 * e 1 + e 2 < ((48 : Nat) : Int) from he.2), sumI_0]; rfl
    · rw [if_neg q]
      have e1 : (fun i => if e 4 ≤ D ∧ 8 * e 1 + e 2 = i then (1 : Int) else 0) = fun _ => 0 := funext fun i => if_neg (fun z => q z.1)
      rw [e1, sumI_0]
theorem ndue_len {D : Int} : ∀ l : List PlE, ((l.filter (nd D)).length : Int) + ndue D l = (l.length : Int)
  | [] => rfl
  | e :: r => by
    have ih := ndue_len (D := D) r
    rw [List.filter_cons]
    unfold ndue
    by_cases q : e 4 ≤ D
    · rw [if_pos q, if_neg (show ¬ nd D e = true by unfold nd; simp; omega), List.length_cons]; omega
    · rw [if_neg q, if_pos (show nd D e = true by unfold nd; simp; omega), List.length_cons, List.length_cons]; omega
/-- the reference goes through the pledges -/
theorem endR {d : Nat} {D : Int} {Q : RV → Mem → Prop} : ∀ (rest F : List PlE) (τ : Mem), PlM (τ 81) (F ++ rest) → τ 81 72 = D → RG (τ 81) → (∀ e ∈ rest, (0 ≤ e 1 ∧ e 1 < 6) ∧ (0 ≤ e 2 ∧ e 2 < 8)) → (∀ i, 0 ≤ i → i < 48 → 0 ≤ τ 81 i ∧ τ 81 i + (rest.length : Int) ≤ 100) →
    (∀ τ', Sm τ τ' [81] [] → PlM (τ' 81) (F ++ rest.filter (nd D)) → RG (τ' 81) → (∀ i, 0 ≤ i → i < 48 → τ' 81 i = τ 81 i + cntp D rest i) → (∀ i, (48 ≤ i ∧ i < 73) ∨ 114 ≤ i → τ' 81 i = τ 81 i) → Q rV τ') →
    Ev (d + 2) mR_endDay 54 [vR 64, vI (F.length : Int)] [] τ Q
  | [], F, τ, hP, hD, hg, he, hb, h => by
    rw [List.append_nil] at hP
    have h1 := hP.1; have h2 := hP.2.1
    refine bR_endDay_54 ⟨⟨by omega, by omega⟩, ⟨by omega, by omega⟩, fun _ => h τ Sm.refl ?_ hg (fun i _ _ => by show _ = _ + 0; rw [Int.add_zero]) (fun _ _ => rfl), fun q => absurd q (by omega)⟩
    rw [List.filter_nil, List.append_nil]; exact hP
  | e :: rest, F, τ, hP, hD, hg, he, hb, h => by
    have h1 := hP.1; have h2 := hP.2.1
    rw [List.length_append, List.length_cons] at h1 h2
    have hk : (F ++ e :: rest)[F.length]? = some e := by rw [List.getElem?_append_right (Nat.le_refl _), Nat.sub_self]; rfl
    have g := hP.2.2 F.length e hk
    have g1 := g 1 (by decide) (by decide)
    have g2 := g 2 (by decide) (by decide)
    have g4 := g 4 (by decide) (by decide)
    obtain ⟨y1, y2⟩ := he e List.mem_cons_self
    have r4 := hg (74 + 5 * (F.length : Int) + 4)
    rw [g4] at r4
    have rD := hg 72
    rw [hD] at rD
    refine bR_endDay_54 ⟨⟨by omega, by omega⟩, ⟨by omega, by omega⟩, fun q => absurd q (by omega), fun _ => ?_⟩
    rw [g4, hD]
    refine ⟨(by omega), (by omega), r4, rD, fun q => ?_, fun q => ?_⟩
    · -- not due
      have nde : nd D e = true := by unfold nd; exact decide_eq_true q
      have ih := endR (d := d) (D := D) (Q := Q) rest (F ++ [e]) τ (by rw [List.append_assoc]; exact hP) hD hg (fun x hx => he x (List.mem_cons_of_mem _ hx)) (fun i i0 i1 => by have := hb i i0 i1; rw [List.length_cons] at this; omega) (fun τ' a1 a2 a3 a4 a5 => h τ' a1 (by rw [List.filter_cons, if_pos nde]; rw [List.append_assoc] at a2; exact a2) a3 (fun i i0 i1 => by
        rw [a4 i i0 i1]
        show _ = τ 81 i + ((if e 4 ≤ D ∧ 8 * e 1 + e 2 = i then 1 else 0) + cntp D rest i)
        rw [if_neg (by omega)]; omega) a5)
      rw [show (((F ++ [e]).length : Nat) : Int) = (F.length : Int) + 1 by rw [List.length_append]; rfl] at ih
      exact ih
    · -- due
      have nde : ¬ nd D e = true := by unfold nd; intro z; have := of_decide_eq_true z; omega
      rw [g1, g2]
      have hb1 := hb (8 * e 1 + e 2) (by omega) (by omega)
      rw [List.length_cons] at hb1
      refine ⟨(by omega), (by omega), (by omega), (by omega), (by omega), (by omega), dropR d (by omega) ?_⟩
      rw [ups_row]
      have ee : su (ups τ 81 (8 * e 1 + e 2) (τ 81 (8 * e 1 + e 2) + 1)) 81 (dropM (fu (τ 81) (8 * e 1 + e 2) (τ 81 (8 * e 1 + e 2) + 1)) (F.length : Int)) 81 = dropM (fu (τ 81) (8 * e 1 + e 2) (τ 81 (8 * e 1 + e 2) + 1)) (F.length : Int) := su_eq
      have sm : Sm τ (su (ups τ 81 (8 * e 1 + e 2) (τ 81 (8 * e 1 + e 2) + 1)) 81 (dropM (fu (τ 81) (8 * e 1 + e 2) (τ 81 (8 * e 1 + e 2) + 1)) (F.length : Int))) [81] [] := (Sm.refl.ups rfl (Or.inl (by decide))).su rfl (by decide)
      generalize hτ : su (ups τ 81 (8 * e 1 + e 2) (τ 81 (8 * e 1 + e 2) + 1)) 81 (dropM (fu (τ 81) (8 * e 1 + e 2) (τ 81 (8 * e 1 + e 2) + 1)) (F.length : Int)) = τ1 at *
      have lo : ∀ i, i < 73 → τ1 81 i = fu (τ 81) (8 * e 1 + e 2) (τ 81 (8 * e 1 + e 2) + 1) i := fun i hi => by rw [ee]; exact dropM_lo (by omega) hi
      have P1 : PlM (τ1 81) (F ++ rest) := by
        have := (hP.fu (i := 8 * e 1 + e 2) (v := τ 81 (8 * e 1 + e 2) + 1) (by omega)).drop (k := F.length) (by rw [List.length_append, List.length_cons]; omega)
        rw [List.eraseIdx_append_of_length_le (Nat.le_refl _), Nat.sub_self] at this
        rw [ee]; exact this
      refine endR (d := d) (D := D) (Q := Q) rest F τ1 P1 (by rw [lo 72 (by decide), fu_ne (by omega)]; exact hD) (by rw [ee]; exact (hg.offu ⟨by omega, by omega⟩).dropM (by rw [fu_ne (by omega)]; exact ⟨by omega, by omega⟩)) (fun x hx => he x (List.mem_cons_of_mem _ hx)) (fun i i0 i1 => ?_) (fun τ' a1 a2 a3 a4 a5 => h τ' (sm.trans a1) (by rw [List.filter_cons, if_neg nde]; exact a2) a3 (fun i i0 i1 => ?_) (fun i hi => ?_))
      · have := hb i i0 i1
        rw [List.length_cons] at this
        rw [lo i (by omega)]
        unfold fu
        split
        · rename_i z; rw [← z]; omega
        · omega
      · rw [a4 i i0 i1, lo i (by omega)]
        show _ = τ 81 i + ((if e 4 ≤ D ∧ 8 * e 1 + e 2 = i then 1 else 0) + cntp D rest i)
        unfold fu
        by_cases z : i = 8 * e 1 + e 2
        · rw [if_pos z, if_pos ⟨q, z.symm⟩, z]; omega
        · rw [if_neg z, if_neg (fun y => z y.2.symm)]; omega
      · rw [a5 i hi]
        rcases hi with hi | hi
        · rw [lo i (by omega), fu_ne (by omega)]
        · rw [ee, dropM_hi (by omega), fu_ne (by omega)]
theorem handOver39 {σ : Mem} (d : Nat) {k q : Int} (hk : 0 ≤ k ∧ k < σ 40 1) (h8 : σ 40 1 ≤ 8) (hq : 0 ≤ q ∧ q < 6) (hx : 0 ≤ σ 40 (75 + k * 5 + 2) ∧ σ 40 (75 + k * 5 + 2) < 8) {Q : RV → Mem → Prop} (h : Q rV (su σ 40 (hoC (σ 40) k q))) : Cl (d + 3) mSt_handOver [aR 39, aI k, aI q] σ Q := by
  have e1 : ∀ v, fu (σ 40) (27 + q * 8 + σ 40 (75 + k * 5 + 2)) v 1 = σ 40 1 := fun v => fu_ne (by omega)
  refine bSt_handOver_r39_in ⟨(by omega), (by omega), (by omega), (by omega), fun μ7 h7 => ?_⟩
  have t7 : μ7 40 = fu (σ 40) (27 + q * 8 + σ 40 (75 + k * 5 + 2)) (σ 40 (27 + q * 8 + σ 40 (75 + k * 5 + 2)) + 1) := by rw [h7, ups_row]
  have t71 : μ7 40 1 = σ 40 1 := by rw [t7, e1]
  refine ⟨(by omega), (by omega), by rw [t71]; omega, by rw [t71]; omega, by rw [t71]; omega, fun μ20 h20 μ21 h21 => ?_⟩
  have e : μ21 = su σ 40 (hoC (σ 40) k q) := by
    rw [h21, h20, ups_su, h7]
    funext b
    by_cases eb : b = 40
    · subst eb
      rw [su_eq, su_eq, su_eq, ups_row]
      unfold hoC dropC
      congr 1
      unfold cpy
      rw [if_neg (by omega)]
    · rw [su_ne eb, su_ne eb, ups_ne eb]
  rw [e]; exact h
/-- the class goes through the pledges, the last one first -/
theorem endC37 {d : Nat} {D : Int} {Q : RV → Mem → Prop} : ∀ (q F : List PlE) (τ : Mem), PlC (τ 38) (q.reverse ++ F) → τ 38 0 = D → RG (τ 38) → (∀ e ∈ q, (0 ≤ e 1 ∧ e 1 < 6) ∧ (0 ≤ e 2 ∧ e 2 < 8)) → (∀ i, 0 ≤ i → i < 48 → 0 ≤ τ 38 (27 + i) ∧ τ 38 (27 + i) + (q.length : Int) ≤ 100) →
    (∀ τ', Sm τ τ' [38] [] → PlC (τ' 38) (q.reverse.filter (nd D) ++ F) → RG (τ' 38) → (∀ i, 0 ≤ i → i < 48 → τ' 38 (27 + i) = τ 38 (27 + i) + cntp D q i) → (∀ i, (i ≠ 1 ∧ i < 27) ∨ 115 ≤ i → τ' 38 i = τ 38 i) → Q rV τ') →
    Ev (d + 4) mSt_endDay 58 [vR 37, vI ((q.length : Int) - 1)] [] τ Q
  | [], F, τ, hP, hD, hg, he, hb, h => by
    refine bSt_endDay_r37_58 ⟨by decide, fun _ => h τ Sm.refl hP hg (fun i _ _ => by show _ = _ + 0; rw [Int.add_zero]) (fun _ _ => rfl), fun z => absurd z (by decide)⟩
  | e :: q, F, τ, hP, hD, hg, he, hb, h => by
    have h1 := hP.1; have h2 := hP.2.1
    rw [List.length_append, List.length_reverse, List.length_cons] at h1 h2
    have hrl : q.reverse.length = q.length := List.length_reverse
    have hk : ((e :: q).reverse ++ F)[q.length]? = some e := by
      rw [List.reverse_cons, List.append_assoc, List.getElem?_append_right (by rw [hrl]; exact Nat.le_refl _), hrl, Nat.sub_self]; rfl
    have g := hP.2.2 q.length e hk
    have g1 := g 1 (by decide) (by decide)
    have g2 := g 2 (by decide) (by decide)
    have g4 := g 4 (by decide) (by decide)
    rw [show (75 + 5 * (q.length : Int)) = 75 + (q.length : Int) * 5 by omega] at g1 g2 g4
    obtain ⟨y1, y2⟩ := he e List.mem_cons_self
    have r4 := hg (75 + (q.length : Int) * 5 + 4)
    rw [g4] at r4
    have rD := hg 0
    rw [hD] at rD
    rw [List.length_cons, show (((q.length + 1 : Nat) : Int) - 1) = (q.length : Int) by omega]
    refine bSt_endDay_r37_58 ⟨⟨by omega, by omega⟩, fun z => absurd z (by omega), fun _ => ?_⟩
    rw [g4, hD]
    refine ⟨(by omega), (by omega), r4, rD, fun z => ?_, fun z => ?_⟩
    · have nde : nd D e = true := by unfold nd; exact decide_eq_true z
      refine endC37 (d := d) (D := D) (Q := Q) q (e :: F) τ (by rw [List.reverse_cons, List.append_assoc] at hP; exact hP) hD hg (fun x hx => he x (List.mem_cons_of_mem _ hx)) (fun i i0 i1 => by have := hb i i0 i1; rw [List.length_cons] at this; omega) (fun τ' a1 a2 a3 a4 a5 => h τ' a1 (by rw [List.reverse_cons, List.filter_append, List.filter_cons, if_pos nde, List.append_assoc]; exact a2) a3 (fun i i0 i1 => by
        rw [a4 i i0 i1]
        show _ = τ 38 (27 + i) + ((if e 4 ≤ D ∧ 8 * e 1 + e 2 = i then 1 else 0) + cntp D q i)
        rw [if_neg (by omega)]; omega) a5)
    · have nde : ¬ nd D e = true := by unfold nd; intro y; have := of_decide_eq_true y; omega
      rw [g1]
      have hb1 := hb (8 * e 1 + e 2) (by omega) (by omega)
      rw [List.length_cons] at hb1
      refine ⟨(by omega), (by omega), handOver37 d (by omega) (by omega) (by omega) (by rw [g2]; exact y2) ?_⟩
      have eidx : (27 + e 1 * 8 + e 2 : Int) = 27 + (8 * e 1 + e 2) := by omega
      have eho : hoC (τ 38) (q.length : Int) (e 1) = dropC (fu (τ 38) (27 + (8 * e 1 + e 2)) (τ 38 (27 + (8 * e 1 + e 2)) + 1)) (q.length : Int) := by unfold hoC; rw [g2, eidx]
      rw [eho]
      have ee : su τ 38 (dropC (fu (τ 38) (27 + (8 * e 1 + e 2)) (τ 38 (27 + (8 * e 1 + e 2)) + 1)) (q.length : Int)) 38 = dropC (fu (τ 38) (27 + (8 * e 1 + e 2)) (τ 38 (27 + (8 * e 1 + e 2)) + 1)) (q.length : Int) := su_eq
      have sm : Sm τ (su τ 38 (dropC (fu (τ 38) (27 + (8 * e 1 + e 2)) (τ 38 (27 + (8 * e 1 + e 2)) + 1)) (q.length : Int))) [38] [] := Sm.refl.su rfl (by decide)
      generalize hτ : su τ 38 (dropC (fu (τ 38) (27 + (8 * e 1 + e 2)) (τ 38 (27 + (8 * e 1 + e 2)) + 1)) (q.length : Int)) = τ1 at *
      have lo : ∀ i, i < 75 → i ≠ 1 → τ1 38 i = fu (τ 38) (27 + (8 * e 1 + e 2)) (τ 38 (27 + (8 * e 1 + e 2)) + 1) i := fun i hi hi1 => by rw [ee]; exact dropC_lo (by omega) hi hi1
      have P1 : PlC (τ1 38) (q.reverse ++ F) := by
        have := (hP.fu (i := 27 + (8 * e 1 + e 2)) (v := τ 38 (27 + (8 * e 1 + e 2)) + 1) (by omega) (by omega)).drop (k := q.length) (by rw [List.length_append, List.length_reverse, List.length_cons]; omega)
        rw [List.reverse_cons, List.append_assoc, List.eraseIdx_append_of_length_le (by rw [hrl]; exact Nat.le_refl _), hrl, Nat.sub_self] at this
        rw [ee]; exact this
      refine endC37 (d := d) (D := D) (Q := Q) q F τ1 P1 (by rw [lo 0 (by decide) (by decide), fu_ne (by omega)]; exact hD) (by rw [ee]; exact (hg.offu ⟨by omega, by omega⟩).dropC (by rw [fu_ne (by omega)]; exact ⟨by omega, by omega⟩)) (fun x hx => he x (List.mem_cons_of_mem _ hx)) (fun i i0 i1 => ?_) (fun τ' a1 a2 a3 a4 a5 => h τ' (sm.trans a1) (by rw [List.reverse_cons, List.filter_append, List.filter_cons, if_neg nde, List.filter_nil, List.append_nil]; exact a2) a3 (fun i i0 i1 => ?_) (fun i hi => ?_))
      · have := hb i i0 i1
        rw [List.length_cons] at this
        rw [lo _ (by omega) (by omega)]
        unfold fu
        split
        · rename_i y; rw [← y]; omega
        · omega
      · rw [a4 i i0 i1, lo _ (by omega) (by omega)]
        show _ = τ 38 (27 + i) + ((if e 4 ≤ D ∧ 8 * e 1 + e 2 = i then 1 else 0) + cntp D q i)
        unfold fu
        by_cases y : 27 + i = 27 + (8 * e 1 + e 2)
        · rw [if_pos y, if_pos ⟨z, (by omega)⟩, y]; omega
        · rw [if_neg y, if_neg (fun w => y (by omega))]; omega
      · rw [a5 i hi]
        rcases hi with hi | hi
        · rw [lo i (by omega) (by omega), fu_ne (by omega)]
        · rw [ee, dropC_hi (by omega) (by rw [fu_ne (by omega)]; omega), fu_ne (by omega)]
/-- the class goes through the pledges, the last one first -/
theorem endC39 {d : Nat} {D : Int} {Q : RV → Mem → Prop} : ∀ (q F : List PlE) (τ : Mem), PlC (τ 40) (q.reverse ++ F) → τ 40 0 = D → RG (τ 40) → (∀ e ∈ q, (0 ≤ e 1 ∧ e 1 < 6) ∧ (0 ≤ e 2 ∧ e 2 < 8)) → (∀ i, 0 ≤ i → i < 48 → 0 ≤ τ 40 (27 + i) ∧ τ 40 (27 + i) + (q.length : Int) ≤ 100) →
    (∀ τ', Sm τ τ' [40] [] → PlC (τ' 40) (q.reverse.filter (nd D) ++ F) → RG (τ' 40) → (∀ i, 0 ≤ i → i < 48 → τ' 40 (27 + i) = τ 40 (27 + i) + cntp D q i) → (∀ i, (i ≠ 1 ∧ i < 27) ∨ 115 ≤ i → τ' 40 i = τ 40 i) → Q rV τ') →
    Ev (d + 4) mSt_endDay 58 [vR 39, vI ((q.length : Int) - 1)] [] τ Q
  | [], F, τ, hP, hD, hg, he, hb, h => by
    refine bSt_endDay_r39_58 ⟨by decide, fun _ => h τ Sm.refl hP hg (fun i _ _ => by show _ = _ + 0; rw [Int.add_zero]) (fun _ _ => rfl), fun z => absurd z (by decide)⟩
  | e :: q, F, τ, hP, hD, hg, he, hb, h => by
    have h1 := hP.1; have h2 := hP.2.1
    rw [List.length_append, List.length_reverse, List.length_cons] at h1 h2
    have hrl : q.reverse.length = q.length := List.length_reverse
    have hk : ((e :: q).reverse ++ F)[q.length]? = some e := by
      rw [List.reverse_cons, List.append_assoc, List.getElem?_append_right (by rw [hrl]; exact Nat.le_refl _), hrl, Nat.sub_self]; rfl
    have g := hP.2.2 q.length e hk
    have g1 := g 1 (by decide) (by decide)
    have g2 := g 2 (by decide) (by decide)
    have g4 := g 4 (by decide) (by decide)
    rw [show (75 + 5 * (q.length : Int)) = 75 + (q.length : Int) * 5 by omega] at g1 g2 g4
    obtain ⟨y1, y2⟩ := he e List.mem_cons_self
    have r4 := hg (75 + (q.length : Int) * 5 + 4)
    rw [g4] at r4
    have rD := hg 0
    rw [hD] at rD
    rw [List.length_cons, show (((q.length + 1 : Nat) : Int) - 1) = (q.length : Int) by omega]
    refine bSt_endDay_r39_58 ⟨⟨by omega, by omega⟩, fun z => absurd z (by omega), fun _ => ?_⟩
    rw [g4, hD]
    refine ⟨(by omega), (by omega), r4, rD, fun z => ?_, fun z => ?_⟩
    · have nde : nd D e = true := by unfold nd; exact decide_eq_true z
      refine endC39 (d := d) (D := D) (Q := Q) q (e :: F) τ (by rw [List.reverse_cons, List.append_assoc] at hP; exact hP) hD hg (fun x hx => he x (List.mem_cons_of_mem _ hx)) (fun i i0 i1 => by have := hb i i0 i1; rw [List.length_cons] at this; omega) (fun τ' a1 a2 a3 a4 a5 => h τ' a1 (by rw [List.reverse_cons, List.filter_append, List.filter_cons, if_pos nde, List.append_assoc]; exact a2) a3 (fun i i0 i1 => by
        rw [a4 i i0 i1]
        show _ = τ 40 (27 + i) + ((if e 4 ≤ D ∧ 8 * e 1 + e 2 = i then 1 else 0) + cntp D q i)
        rw [if_neg (by omega)]; omega) a5)
    · have nde : ¬ nd D e = true := by unfold nd; intro y; have := of_decide_eq_true y; omega
      rw [g1]
      have hb1 := hb (8 * e 1 + e 2) (by omega) (by omega)
      rw [List.length_cons] at hb1
      refine ⟨(by omega), (by omega), handOver39 d (by omega) (by omega) (by omega) (by rw [g2]; exact y2) ?_⟩
      have eidx : (27 + e 1 * 8 + e 2 : Int) = 27 + (8 * e 1 + e 2) := by omega
      have eho : hoC (τ 40) (q.length : Int) (e 1) = dropC (fu (τ 40) (27 + (8 * e 1 + e 2)) (τ 40 (27 + (8 * e 1 + e 2)) + 1)) (q.length : Int) := by unfold hoC; rw [g2, eidx]
      rw [eho]
      have ee : su τ 40 (dropC (fu (τ 40) (27 + (8 * e 1 + e 2)) (τ 40 (27 + (8 * e 1 + e 2)) + 1)) (q.length : Int)) 40 = dropC (fu (τ 40) (27 + (8 * e 1 + e 2)) (τ 40 (27 + (8 * e 1 + e 2)) + 1)) (q.length : Int) := su_eq
      have sm : Sm τ (su τ 40 (dropC (fu (τ 40) (27 + (8 * e 1 + e 2)) (τ 40 (27 + (8 * e 1 + e 2)) + 1)) (q.length : Int))) [40] [] := Sm.refl.su rfl (by decide)
      generalize hτ : su τ 40 (dropC (fu (τ 40) (27 + (8 * e 1 + e 2)) (τ 40 (27 + (8 * e 1 + e 2)) + 1)) (q.length : Int)) = τ1 at *
      have lo : ∀ i, i < 75 → i ≠ 1 → τ1 40 i = fu (τ 40) (27 + (8 * e 1 + e 2)) (τ 40 (27 + (8 * e 1 + e 2)) + 1) i := fun i hi hi1 => by rw [ee]; exact dropC_lo (by omega) hi hi1
      have P1 : PlC (τ1 40) (q.reverse ++ F) := by
        have := (hP.fu (i := 27 + (8 * e 1 + e 2)) (v := τ 40 (27 + (8 * e 1 + e 2)) + 1) (by omega) (by omega)).drop (k := q.length) (by rw [List.length_append, List.length_reverse, List.length_cons]; omega)
        rw [List.reverse_cons, List.append_assoc, List.eraseIdx_append_of_length_le (by rw [hrl]; exact Nat.le_refl _), hrl, Nat.sub_self] at this
        rw [ee]; exact this
      refine endC39 (d := d) (D := D) (Q := Q) q F τ1 P1 (by rw [lo 0 (by decide) (by decide), fu_ne (by omega)]; exact hD) (by rw [ee]; exact (hg.offu ⟨by omega, by omega⟩).dropC (by rw [fu_ne (by omega)]; exact ⟨by omega, by omega⟩)) (fun x hx => he x (List.mem_cons_of_mem _ hx)) (fun i i0 i1 => ?_) (fun τ' a1 a2 a3 a4 a5 => h τ' (sm.trans a1) (by rw [List.reverse_cons, List.filter_append, List.filter_cons, if_neg nde, List.filter_nil, List.append_nil]; exact a2) a3 (fun i i0 i1 => ?_) (fun i hi => ?_))
      · have := hb i i0 i1
        rw [List.length_cons] at this
        rw [lo _ (by omega) (by omega)]
        unfold fu
        split
        · rename_i y; rw [← y]; omega
        · omega
      · rw [a4 i i0 i1, lo _ (by omega) (by omega)]
        show _ = τ 40 (27 + i) + ((if e 4 ≤ D ∧ 8 * e 1 + e 2 = i then 1 else 0) + cntp D q i)
        unfold fu
        by_cases y : 27 + i = 27 + (8 * e 1 + e 2)
        · rw [if_pos y, if_pos ⟨z, (by omega)⟩, y]; omega
        · rw [if_neg y, if_neg (fun w => y (by omega))]; omega
      · rw [a5 i hi]
        rcases hi with hi | hi
        · rw [lo i (by omega) (by omega), fu_ne (by omega)]
        · rw [ee, dropC_hi (by omega) (by rw [fu_ne (by omega)]; omega), fu_ne (by omega)]
