/-! ===== CASE repeats ===== -/
theorem plsM_fn {m : Int → Int} {L : List PlE} (h : PlM m L) (h0 : ∀ e ∈ L, ∀ w : Int, ¬ (0 ≤ w ∧ w < 5) → e w = 0) : plsM m = L := by
  obtain ⟨a, b, c⟩ := h
  refine List.ext_getElem? (fun k => ?_)
  by_cases hk : k < L.length
  · have e1 : L[k]? = some L[k] := List.getElem?_eq_getElem hk
    rw [e1]
    unfold plsM
    rw [List.getElem?_map, List.getElem?_range (by omega)]
    show some _ = some _
    congr 1
    funext w
    show (if 0 ≤ w ∧ w < 5 then m (74 + 5 * (k : Int) + w) else 0) = L[k] w
    by_cases hw : 0 ≤ w ∧ w < 5
    · rw [if_pos hw]; exact c k _ e1 w hw.1 hw.2
    · rw [if_neg hw]; exact (h0 _ (List.getElem_mem hk) w hw).symm
  · have hl : (plsM m).length = (m 73).toNat := by unfold plsM; simp
    rw [List.getElem?_eq_none (show (plsM m).length ≤ k by omega), List.getElem?_eq_none (show L.length ≤ k by omega)]
theorem plsM_0 {m : Int → Int} : ∀ e ∈ plsM m, ∀ w : Int, ¬ (0 ≤ w ∧ w < 5) → e w = 0 := by
  intro e he w hw
  unfold plsM at he
  obtain ⟨k, hk, rfl⟩ := List.mem_map.mp he
  exact if_neg hw
theorem cntp_nn {D i : Int} : ∀ l : List PlE, 0 ≤ cntp D l i
  | [] => Int.le_refl _
  | e :: l => by
    have := cntp_nn (D := D) (i := i) l
    show 0 ≤ (if e 4 ≤ D ∧ 8 * e 1 + e 2 = i then (1 : Int) else 0) + cntp D l i
    split <;> omega
theorem cntp_next {D i : Int} : ∀ l : List PlE, cntp D l i + cntp (D + 1) (l.filter (nd D)) i = cntp (D + 1) l i
  | [] => rfl
  | e :: l => by
    have ih := cntp_next (D := D) (i := i) l
    show (if e 4 ≤ D ∧ 8 * e 1 + e 2 = i then (1 : Int) else 0) + cntp D l i + cntp (D + 1) ((e :: l).filter (nd D)) i = (if e 4 ≤ D + 1 ∧ 8 * e 1 + e 2 = i then (1 : Int) else 0) + cntp (D + 1) l i
    by_cases c : D < e 4
    · rw [List.filter_cons_of_pos (by unfold nd; exact decide_eq_true c)]
      show (if e 4 ≤ D ∧ 8 * e 1 + e 2 = i then (1 : Int) else 0) + cntp D l i + ((if e 4 ≤ D + 1 ∧ 8 * e 1 + e 2 = i then (1 : Int) else 0) + cntp (D + 1) (l.filter (nd D)) i) = _
      rw [if_neg (by omega)]; omega
    · rw [List.filter_cons_of_neg (by unfold nd; rw [decide_eq_false c]; decide)]
      by_cases g : 8 * e 1 + e 2 = i
      · rw [if_pos ⟨by omega, g⟩, if_pos ⟨by omega, g⟩]; omega
      · rw [if_neg (fun z => g z.2), if_neg (fun z => g z.2)]; omega
theorem cntp_z {D i : Int} : ∀ l : List PlE, (∀ e ∈ l, D < e 4) → cntp D l i = 0
  | [], _ => rfl
  | e :: l, h => by
    show (if e 4 ≤ D ∧ 8 * e 1 + e 2 = i then (1 : Int) else 0) + cntp D l i = 0
    have := h e (List.mem_cons_self ..)
    rw [cntp_z l (fun x hx => h x (List.mem_cons_of_mem _ hx)), if_neg (by omega)]; rfl
/-- so many days later -/
def DayK (T P : Int) (m : Int → Int) (k : Int) (m' : Int → Int) : Prop := (∀ i, 0 ≤ i → i < 48 → m' i = m i + cntp (m 72 + k) (plsM m) i) ∧ plsM m' = (plsM m).filter (nd (m 72 + k)) ∧ m' 72 = m 72 + k ∧ RowW T P (m 72 + k) 47952 m' ∧ RG m'
theorem DayK.next {T P : Int} {m m' m'' : Int → Int} {k : Int} (hT : 0 ≤ T ∧ T ≤ 8) (hP : 0 ≤ P ∧ P ≤ 6) (h : DayK T P m k m') (hd : DayM P m' m'') : DayK T P m (k + 1) m'' := by
  obtain ⟨a1, a2, a3, a4, a5⟩ := h
  obtain ⟨b1, b2, -, -, b5, -, b7⟩ := id hd
  rw [a2, a3, Int.add_assoc, List.filter_filter] at b1
  rw [a2, a3, Int.add_assoc] at b2
  have ff : (plsM m).filter (fun e => nd (m 72 + (k + 1)) e && nd (m 72 + k) e) = (plsM m).filter (nd (m 72 + (k + 1))) := by
    congr 1
    funext e
    unfold nd
    by_cases c : m 72 + (k + 1) < e 4
    · rw [decide_eq_true c, decide_eq_true (show m 72 + k < e 4 by omega)]; rfl
    · rw [decide_eq_false c]; rfl
  rw [ff] at b1
  refine ⟨fun i i0 i1 => ?_, plsM_fn b1 (fun e he => plsM_0 e (List.mem_filter.mp he).1), by rw [b5, a3]; omega, ?_, b7⟩
  · have c := cntp_next (D := m 72 + k) (i := i) (plsM m)
    rw [b2 i i0 i1, a1 i i0 i1, ← Int.add_assoc (m 72)] at *
    omega
  · have := a4.day hT hP hd
    rw [Int.add_assoc] at this; exact this
/-- what falls due to p, as the class gathers it -/
theorem dueC {σ : Mem} (hM : MarkI σ) {P D0 B : Int} {m : Int → Int} (hS : RowS (σ 38) m) (hW : RowW (σ 64 37) P D0 B m) (hP6 : P ≤ 6) (d : Nat) {p D : Int} (hp : 0 ≤ p ∧ p < 6) (hD : rg D) {Q : RV → Mem → Prop} (h : ∀ s, (0 ≤ s ∧ s < 2 ^ (σ 64 37).toNat) → (∀ u, 0 ≤ u → u < 8 → bt s u = decide (0 < cntp D (plsM m) (8 * p + u))) → Q (rI s) σ) : Cl (d + 3) mSt_dueTo [aR 37, aI p, aI D] σ Q := by
  have n1 := hM.2.1.1
  have p2 := p2_le n1
  have h73 := hW.2.2.2.2.2.2.1
  obtain ⟨q1, q2, q3⟩ := plsM_ok h73
  have val := plsM_val hW
  have f72 := hW.2.2.2.2.2.1
  have e1 : σ 38 1 = m 73 := hS.1.2
  refine bSt_dueTo_in ?_
  have key : ∀ (rest pre : List PlE) (s : Int), plsM m = pre ++ rest → (0 ≤ s ∧ s < 2 ^ (σ 64 37).toNat) → (∀ u, 0 ≤ u → u < 8 → bt s u = decide (0 < cntp D pre (8 * p + u))) → Ev (d + 3) mSt_dueTo 5 [vR 37, vI p, vI D, vI s, vI (pre.length : Int)] [] σ Q := by
    intro rest
    induction rest with
    | nil =>
      intro pre s hl hs hb
      rw [List.append_nil] at hl
      rw [hl] at h q1 q2
      exact bSt_dueTo_5 ⟨⟨by omega, by omega⟩, by rw [e1]; exact ⟨by omega, by omega⟩, fun _ => h s hs hb, fun z => absurd z (by rw [e1]; omega)⟩
    | cons e rest ih =>
      intro pre s hl hs hb
      have hlen : (plsM m).length = pre.length + (rest.length + 1) := by rw [hl, List.length_append, List.length_cons]
      have he : (plsM m)[pre.length]? = some e := by rw [hl, List.getElem?_append_right (Nat.le_refl _), Nat.sub_self]; rfl
      have cell : ∀ w : Int, 0 ≤ w → w < 5 → σ 38 (75 + (pre.length : Int) * 5 + w) = e w := fun w w0 w1 => by
        have a := hS.2.2.2 (5 * (pre.length : Int) + w) (by omega) (by omega)
        rw [show 75 + (pre.length : Int) * 5 + w = 75 + (5 * (pre.length : Int) + w) by omega, a, ← Int.add_assoc]
        exact q3 _ e he w w0 w1
      have ve := val e (by rw [hl]; exact List.mem_append_right _ (List.mem_cons_self ..))
      have app : ∀ i, cntp D (pre ++ [e]) i = cntp D pre i + (if e 4 ≤ D ∧ 8 * e 1 + e 2 = i then 1 else 0) := fun i => by
        rw [cntp_app]
        show _ + ((if e 4 ≤ D ∧ 8 * e 1 + e 2 = i then (1 : Int) else 0) + 0) = _
        omega
      have nx : ∀ s', (0 ≤ s' ∧ s' < 2 ^ (σ 64 37).toNat) → (∀ u, 0 ≤ u → u < 8 → bt s' u = decide (0 < cntp D pre (8 * p + u) + (if e 4 ≤ D ∧ 8 * e 1 + e 2 = 8 * p + u then 1 else 0))) → Ev (d + 3) mSt_dueTo 5 [vR 37, vI p, vI D, vI s', vI ((pre.length : Int) + 1)] [] σ Q := by
        intro s' hs' hb'
        have := ih (pre ++ [e]) s' (by rw [hl, List.append_assoc]; rfl) hs' (fun u u0 u1 => by rw [app]; exact hb' u u0 u1)
        rw [List.length_append, List.length_singleton] at this
        exact this
      have c1 := cell 1 (by decide) (by decide)
      have c2 := cell 2 (by decide) (by decide)
      have c4 := cell 4 (by decide) (by decide)
      have no : ¬ (e 1 = p ∧ e 4 ≤ D) → ∀ u, 0 ≤ u → u < 8 → bt s u = decide (0 < cntp D pre (8 * p + u) + (if e 4 ≤ D ∧ 8 * e 1 + e 2 = 8 * p + u then 1 else 0)) := fun z u u0 u1 => by
        rw [if_neg (by omega), Int.add_zero]; exact hb u u0 u1
      refine bSt_dueTo_5 ⟨⟨by omega, by omega⟩, by rw [e1]; exact ⟨by omega, by omega⟩, fun z => absurd z (by rw [e1]; omega), fun _ => ⟨(by omega), (by omega), by rw [c1]; exact ⟨by omega, by omega⟩, ⟨by omega, by omega⟩, fun z => nx s hs (no (by rw [c1] at z; exact fun y => z y.1)), fun z => ⟨(by omega), (by omega), by rw [c4]; exact ⟨by omega, by omega⟩, hD, fun y => nx s hs (no (by rw [c4] at y; omega)), fun y => ⟨(by omega), (by omega), ?_⟩⟩⟩⟩
      rw [c2]
      rw [c1] at z
      rw [c4] at y
      refine nx (ins s (e 2)) (ins_lt hs ⟨by omega, by omega⟩ (by omega)) (fun u u0 u1 => ?_)
      have nn := cntp_nn (D := D) (i := 8 * p + u) pre
      rw [bt_ins ⟨by omega, by omega⟩ ⟨by omega, by omega⟩ u0, hb u u0 u1]
      by_cases c : u = e 2
      · rw [decide_eq_true c, Bool.or_true, if_pos ⟨y, by omega⟩]
        exact (decide_eq_true (by omega)).symm
      · rw [decide_eq_false c, Bool.or_false, if_neg (by omega), Int.add_zero]
  exact key (plsM m) [] 0 rfl ⟨by decide, Int.pow_pos (by decide)⟩ (fun u u0 u1 => by rw [bt_0]; rfl)
theorem c_repeats : ∀ (a b : Int) (σ : Mem), Inv σ → rg a → rg b → Pair mF_repeats mR_repeats [aI a, aI b] σ := by
  intro p n σ hI ha hb
  have hM := hI.1.2.1
  obtain ⟨⟨m1, m2, m3, m4⟩, ⟨n1, n2, n3, n4⟩, -⟩ := hI.1.2.1
  have hR := hI.1.2.2.1
  have hV := hI.1.2.2.2
  have C2 := hI.2.1.2.2.2.2.1
  have q0 := hI.2.2.2.2.2.1
  have f72 := hV.W.2.2.2.2.2.1
  by_cases hx : (0 ≤ p ∧ p < σ 64 38) ∧ (0 ≤ n ∧ n ≤ 60)
  · obtain ⟨x1, x2⟩ := hx
    have p2 := p2_le n1
    generalize hl : plsM (σ 81) = l at *
    have sr := sumI_bd (f := fun t => if σ 81 (8 * p + t) + cntp (σ 81 72 + n) l (8 * p + t) = 0 then (1 : Int) else 0) (a := 0) (b := 1) (n := (σ 64 37).toNat) (fun k _ _ => by split <;> decide)
    refine pair_v (v := sumI (fun t => if σ 81 (8 * p + t) + cntp (σ 81 72 + n) l (8 * p + t) = 0 then (1 : Int) else 0) (σ 64 37).toNat) hI ⟨by omega, by omega⟩ ?_ (fun τ hI2 hs => ?_)
    · refine bF_repeats_in (d := 995) ⟨ha, ⟨by omega, by omega⟩, fun _ => ⟨hb, fun z => absurd z (by omega), fun _ => ⟨fun _ => ?_, fun z => absurd z (by omega)⟩⟩, fun z => absurd (by omega) z⟩
      refine heldBy37 hM hR.S hV.W (Int.le_refl _) 995 (p := p) (by omega) ?_
      rw [show σ 38 0 = σ 81 72 from hR.S.1.1]
      refine dueC hM hR.S hV.W n2.2 995 (p := p) ⟨by omega, by omega⟩ ⟨by omega, by omega⟩ (fun s hs hbs => ⟨?_, Sm.refl⟩)
      rw [hl] at hbs
      obtain ⟨k1, k2, k3⟩ := hdm_r (m := σ 81) (p := p) n1
      have ol := or_lt (n := (σ 64 37).toNat) k1 hs (by omega)
      have cnt := bcF_p (s := i_or (hdm (σ 81) p (σ 64 37)) s) (p := fun t => decide (0 < σ 81 (8 * p + t)) || decide (0 < cntp (σ 81 72 + n) l (8 * p + t))) (n := (σ 64 37).toNat) ⟨by omega, by omega⟩ (by omega) (fun u u0 => by
        rw [bt_or ⟨by omega, by omega⟩ ⟨by omega, by omega⟩]
        by_cases c : u < σ 64 37
        · rw [decide_eq_true (show u < ((σ 64 37).toNat : Int) by omega), Bool.true_and, hbs u u0 (by omega)]
          congr 1
          rw [Bool.eq_iff_iff, k3 u u0, decide_eq_true_iff]
          exact ⟨fun z => z.2, fun z => ⟨c, z⟩⟩
        · rw [decide_eq_false (show ¬ u < ((σ 64 37).toNat : Int) by omega), Bool.false_and, bt_hi hs (by omega), bt_hi k1 (by omega)]; rfl)
      rw [m1, cnt]
      congr 1
      have sa := sumI_add (f := fun t => if (decide (0 < σ 81 (8 * p + t)) || decide (0 < cntp (σ 81 72 + n) l (8 * p + t))) = true then (1 : Int) else 0) (g := fun t => if σ 81 (8 * p + t) + cntp (σ 81 72 + n) l (8 * p + t) = 0 then (1 : Int) else 0) (σ 64 37).toNat
      have s1 : sumI (fun t => (if (decide (0 < σ 81 (8 * p + t)) || decide (0 < cntp (σ 81 72 + n) l (8 * p + t))) = true then (1 : Int) else 0) + (if σ 81 (8 * p + t) + cntp (σ 81 72 + n) l (8 * p + t) = 0 then (1 : Int) else 0)) (σ 64 37).toNat = σ 64 37 := by
        have b := sumI_bd (f := fun t => (if (decide (0 < σ 81 (8 * p + t)) || decide (0 < cntp (σ 81 72 + n) l (8 * p + t))) = true then (1 : Int) else 0) + (if σ 81 (8 * p + t) + cntp (σ 81 72 + n) l (8 * p + t) = 0 then (1 : Int) else 0)) (a := 1) (b := 1) (n := (σ 64 37).toNat) (fun t t0 t1 => by
          have f := hV.W.1 (8 * p + t) (by omega) (by omega)
          have g := cntp_nn (D := σ 81 72 + n) (i := 8 * p + t) l
          by_cases c : σ 81 (8 * p + t) + cntp (σ 81 72 + n) l (8 * p + t) = 0
          · rw [if_pos c, decide_eq_false (by omega), decide_eq_false (by omega), if_neg (by decide)]; decide
          · rw [if_neg c, if_pos (by rw [Bool.or_eq_true, decide_eq_true_iff, decide_eq_true_iff]; omega)]; decide)
        omega
      rw [s1] at sa
      omega
    · have e64 : τ 64 37 = σ 64 37 ∧ τ 64 38 = σ 64 38 := ⟨hs.2 37 rfl, hs.2 38 rfl⟩
      have e81 := hs.1 81 rfl
      have f43 : τ 64 43 = 0 := by rw [hs.2 43 rfl]; exact q0
      have hl0 : ∀ e ∈ l, σ 81 72 < e 4 := fun e he => by rw [← hl] at he; exact (plsM_val hV.W e he).2.2.2.2.2.1
      refine bR_repeats_in (d := 996) ⟨ha, hI2.mOK, fun _ => ⟨hb, fun _ => ?_, fun z => absurd x2 z⟩, fun z => absurd (by rw [e64.2]; exact x1) z⟩
      refine asideR 997 (fun ω1 s1 v43 c91 => ?_)
      have sm1 : Sm τ ω1 [64, 81, 91] [43] := s1.mono (by decide) (by decide)
      have o81 : ω1 81 = σ 81 := by rw [s1.1 81 rfl, e81]
      have k0 : DayK (σ 64 37) (σ 64 38) (σ 81) 0 (ω1 81) := by
        rw [o81]
        refine ⟨fun i i0 i1 => ?_, ?_, by omega, ?_, C2⟩
        · rw [hl, cntp_z l (fun e he => by have := hl0 e he; omega)]; omega
        · rw [hl]
          exact (List.filter_eq_self.mpr (fun e he => by unfold nd; exact decide_eq_true (by have := hl0 e he; omega))).symm
        · rw [Int.add_zero]; exact hV.W.D (Int.le_refl _)
      refine loop_up (G := fun k => ∀ ω u4, Sm τ ω [64, 81, 91] [43] → (∀ i, 0 ≤ i → i < 355 → ω 91 i = τ 81 i) → DayK (σ 64 37) (σ 64 38) (σ 81) k (ω 81) → Ev 999 mR_repeats 26 [vR 64, vI p, vI n, vI k, u4] [] ω (fun r ω => r = rI (sumI (fun t => if σ 81 (8 * p + t) + cntp (σ 81 72 + n) l (8 * p + t) = 0 then (1 : Int) else 0) (σ 64 37).toNat) ∧ Sm τ ω (81 :: scrSL) scrSJ ∧ (∀ i, 0 ≤ i → i < 355 → ω 81 i = τ 81 i) ∧ RG (ω 81))) (hi := n) _ 0 rfl x2.1 (fun k k0 k1 g => ?_) ?_ ω1 vU sm1 (fun i i0 i1 => c91 i i0 i1) k0
      · intro ω u4 sm c9 hk
        have hk' := hk
        obtain ⟨a1, a2, a3, a4, a5⟩ := hk'
        refine bR_repeats_26 (d := 996) ⟨⟨by omega, by omega⟩, ⟨by omega, by omega⟩, fun z => absurd z (by omega), fun _ => ?_⟩
        refine endDayR (T := σ 64 37) (P := σ 64 38) (D := σ 81 72 + k) (B := 47952) a4 (Int.le_refl _) n1.2 ⟨by rw [sm.2 38 rfl]; exact e64.2, n2⟩ (by omega) a5 996 (fun ω2 s2 d2 => ?_)
        exact g ω2 _ (sm.trans (s2.mono (by decide) (by decide))) (fun i i0 i1 => by rw [s2.1 91 rfl]; exact c9 i i0 i1) (hk.next n1 n2 d2)
      · intro ω u4 sm c9 hk
        obtain ⟨a1, a2, a3, a4, a5⟩ := hk
        rw [hl] at a1
        refine bR_repeats_26 (d := 996) ⟨⟨by omega, by omega⟩, ⟨by omega, by omega⟩, fun _ => ?_, fun z => absurd z (by omega)⟩
        have f37 : ω 64 37 = σ 64 37 := by rw [sm.2 37 rfl]; exact e64.1
        refine loop_up (G := fun t => Ev 999 mR_repeats 46 [vR 64, vI p, vI n, vI (sumI (fun t => if σ 81 (8 * p + t) + cntp (σ 81 72 + n) l (8 * p + t) = 0 then (1 : Int) else 0) t.toNat), vI t] [] ω (fun r ω => r = rI (sumI (fun t => if σ 81 (8 * p + t) + cntp (σ 81 72 + n) l (8 * p + t) = 0 then (1 : Int) else 0) (σ 64 37).toNat) ∧ Sm τ ω (81 :: scrSL) scrSJ ∧ (∀ i, 0 ≤ i → i < 355 → ω 81 i = τ 81 i) ∧ RG (ω 81))) (hi := σ 64 37) _ 0 rfl n1.1 (fun t t0 t1 g => ?_) ?_
        · rw [sumI_S t0] at g
          have f48 := a4.f48 (Int.le_refl _) (i := 8 * p + t) (by omega) (by omega)
          have av := a1 (8 * p + t) (by omega) (by omega)
          refine bR_repeats_46 (d := 996) ⟨⟨by omega, by omega⟩, by rw [f37]; exact ⟨by omega, by omega⟩, fun z => absurd z (by rw [f37]; omega), fun _ => ⟨(by omega), (by omega), ⟨by omega, by omega⟩, fun z => ?_, fun z => ?_⟩⟩
          · rw [if_neg (by rw [← av]; exact z)] at g; exact g
          · rw [if_pos (by rw [← av]; exact z)] at g; exact g
        · refine bR_repeats_46 (d := 996) ⟨⟨by omega, by omega⟩, by rw [f37]; exact ⟨by omega, by omega⟩, fun _ => backR 997 a5 (fun i i0 i1 => by rw [c9 i i0 i1, e81]; exact C2 i) (fun ω3 s3 v3 c3 g3 => ?_), fun z => absurd z (by rw [f37]; omega)⟩
          exact ⟨rfl, Sm.drop (j := 43) ((sm.mono (by decide) (by decide)).trans (s3.mono (by decide) (by decide))) (by rw [v3, f43]), fun i i0 i1 => by rw [c3 i i0 i1]; exact c9 i i0 i1, g3⟩
  · refine pair_q (v := -1) hI (by decide) ?_ ?_
    · exact bF_repeats_in (d := 995) ⟨ha, ⟨by omega, by omega⟩, fun h1 => ⟨hb, fun _ => ⟨rfl, rfl⟩, fun h2 => ⟨fun h3 => absurd (by omega) hx, fun _ => ⟨rfl, rfl⟩⟩⟩, fun _ => ⟨rfl, rfl⟩⟩
    · exact bR_repeats_in (d := 996) ⟨ha, hI.mOK, fun h1 => ⟨hb, fun h2 => absurd ⟨h1, h2⟩ hx, fun _ => ⟨rfl, rfl⟩⟩, fun _ => ⟨rfl, rfl⟩⟩
