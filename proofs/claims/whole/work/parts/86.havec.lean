/-! ===== HAVING, BY THE CLASS; CASE have ===== -/
def gcL (c : Int → Int) (p : Int) : List (Int × Int) → Int → Int
  | [] => c
  | e :: l => gc1 (gcL c p l) p e.1 e.2
theorem gc1_2 {c : Int → Int} {p x g : Int} (h : 0 ≤ c 2 ∧ c 2 ≤ 60) (hp : 0 ≤ p ∧ p < 6) (hx : 0 ≤ x ∧ x < 8) : 0 ≤ gc1 c p x g 2 ∧ gc1 c p x g 2 ≤ 60 := by
  have e : gnB c (27 + p * 8 + x) (3 + p * 4 + 3) (3 + p * 4 + 2) x g 2 = c 2 := gnB_o (by omega) (by omega) (by omega)
  unfold gc1 gcA
  rw [fu_hit, e]; omega
theorem gcL_2 {q : Int} {m c : Int → Int} {p T : Int} (h : 0 ≤ c 2 ∧ c 2 ≤ 60) (hp : 0 ≤ p ∧ p < 6) (hT : T ≤ 8) : ∀ {l : List (Int × Int)}, GOK q m p T l → 0 ≤ gcL c p l 2 ∧ gcL c p l 2 ≤ 60
  | [], _ => h
  | e :: l, g => gc1_2 (gcL_2 h hp hT g.2) hp ⟨g.1.1.1, by have := g.1.1.2; omega⟩
theorem gcL_S {q : Int} {m c : Int → Int} {p T P D B : Int} (hS : RowS c m) (hW : RowW T P D B m) (h0 : 0 ≤ m 114 ∧ m 114 ≤ 60) (hp : 0 ≤ p ∧ p < 6) (hT : 0 ≤ T ∧ T ≤ 8) : ∀ {l : List (Int × Int)}, GOK q m p T l → RowS (gcL c p l) (gnL q m p l)
  | [], _ => hS
  | e :: l, g => (gcL_S hS hW h0 hp hT g.2).gn q (gnL_W hW h0 hp hT g.2).2.2.2.2.2.2.1 (gnL_114 h0 hp hT.2 g.2).1 hp ⟨g.1.1.1, by have := g.1.1.2; omega⟩
theorem gcL_L {m c : Int → Int} {p T P D B : Int} (hS : RowS c m) (hW : RowW T P D B m) (hD : D ≤ 999) (hL : LogR c m) (hLW : LogW m) (hp : 0 ≤ p ∧ p < 6) (hT : 0 ≤ T ∧ T ≤ 8) : ∀ {l : List (Int × Int)}, GOK 0 m p T l → LogR (gcL c p l) (gnL 0 m p l) ∧ LogW (gnL 0 m p l)
  | [], _ => ⟨hL, hLW⟩
  | e :: l, g => by
    obtain ⟨a, b⟩ := gcL_L hS hW hD hL hLW hp hT g.2
    have w := gnL_W hW hLW.1 hp hT g.2
    have d := w.2.2.2.2.2.1
    exact a.gn (gcL_S hS hW hLW.1 hp hT g.2) b hp ⟨g.1.1.1, by have := g.1.1.2; omega⟩ g.1.2.1 ⟨d.1, by omega⟩
theorem gcL_RG {m c : Int → Int} {p T P D B : Int} (q : Int) (hS : RowS c m) (hW : RowW T P D B m) (hD : D ≤ 999) (hB : B ≤ 47952) (h0 : 0 ≤ m 114 ∧ m 114 ≤ 60) (h2 : 0 ≤ c 2 ∧ c 2 ≤ 60) (hp : 0 ≤ p ∧ p < 6) (hT : 0 ≤ T ∧ T ≤ 8) (hc : RG c) (hm : RG m) : ∀ {l : List (Int × Int)}, GOK q m p T l → RG (gcL c p l) ∧ RG (gnL q m p l)
  | [], _ => ⟨hc, hm⟩
  | e :: l, g => by
    obtain ⟨a, b⟩ := gcL_RG q hS hW hD hB h0 h2 hp hT hc hm g.2
    have w := gnL_W hW h0 hp hT g.2
    have s := gcL_S hS hW h0 hp hT g.2
    have n2 := gcL_2 h2 hp hT.2 g.2
    have n114 := gnL_114 h0 hp hT.2 g.2
    have d := w.2.2.2.2.2.1
    have g1 := g.1
    show RG (gc1 (gcL c p l) p e.1 e.2) ∧ RG (gn1 q (gnL q m p l) p e.1 e.2)
    generalize gcL c p l = c' at *
    generalize gnL q m p l = m' at *
    obtain ⟨x, v⟩ := e
    dsimp only at g1 ⊢
    have p2 := p2_le hT
    have f48 := w.f48 hB (i := 8 * p + x) (by omega) (by omega)
    have hj := w.1 (54 + p) (by omega) (by omega)
    have hj2 : m' (54 + p) ≤ 47952 := by
      have s1 := sumI_le (f := fun i => m' (54 + i)) hp.1 (n := 6) (fun i h0 h1 => w.1 _ (by omega) (by omega)) (by omega)
      have s2 := sumI_nn (f := m') (n := 48) (fun i h0 h1 => w.1 i h0 (by omega))
      have s3 := w.2.2.1
      have s4 := w.2.2.2.2.2.2.1
      omega
    have had := w.2.1 p hp.1 hp.2
    have had0 := w.1 (48 + p) (by omega) (by omega)
    have e1 : c' (27 + p * 8 + x) = m' (8 * p + x) := Cor.eq s (Cor.fst hp ⟨by omega, by omega⟩)
    have e2 : c' (3 + p * 4 + 3) = m' (48 + p) := Cor.eq s (Cor.had hp)
    have e3 : c' (3 + p * 4 + 2) = m' (54 + p) := Cor.eq s (Cor.joy hp)
    have il := ins_lt (m := 8) (s := m' (48 + p)) (t := x) ⟨by omega, by omega⟩ ⟨by omega, by omega⟩ (by decide)
    have i8 : (2 : Int) ^ 8 = 256 := by decide
    have e0 : c' 0 = m' 72 := s.1.1
    refine ⟨a.gc (by rw [e1]; exact ⟨by omega, by omega⟩) ?_ ?_ (by rw [e0]; exact ⟨by omega, by omega⟩) n2.1 hp ⟨by omega, by omega⟩, b.gn q hp ⟨by omega, by omega⟩ g1.2.1 n114 ⟨by omega, by omega⟩ ?_ ?_⟩
    · rw [fu_ne (by omega), e2]; exact ⟨by omega, by omega⟩
    · rw [fu_ne (by omega), fu_ne (by omega), e3]; exact ⟨by omega, by omega⟩
    · rw [fu_ne (by omega)]; exact ⟨by omega, by omega⟩
    · rw [fu_ne (by omega), fu_ne (by omega)]; exact ⟨by omega, by omega⟩
theorem bcF_pos {s x : Int} (hs : st8 s) (hx : 0 ≤ x ∧ x < 8) : 1 ≤ bcF (ins s x) ∧ bcF (ins s x) ≤ bcF s + 1 := by
  have b := bcF_r hs
  cases c : bt s x
  · rw [bcF_ins hs hx c]; omega
  · rw [ins_in hs hx c]
    obtain ⟨⟨r0, r1⟩, r2⟩ := rem_in hs hx c
    have e : bt (rem s x) x = false := by rw [bt_rem hs hx ⟨by omega, by omega⟩, decide_eq_true rfl, Bool.not_true, Bool.and_false]
    have i := bcF_ins (s := rem s x) ⟨by omega, by omega⟩ hx e
    rw [r2] at i
    have := bcF_r (s := rem s x) ⟨by omega, by omega⟩
    omega
theorem ptt_le (ct : Int → Int) (C : Nat) (s : Int) : ptt ct C s ≤ (C : Int) := by
  have := sumI_bd (f := fun k => if bt s (ct k) = true then (0 : Int) else 1) (a := 0) (b := 1) (n := C) (fun k _ _ => by split <;> decide)
  unfold ptt; omega
/-- all that a having of x gives -/
def hvs (σ : Mem) (o : Option (List Cla)) (m : Int → Int) (p x : Int) : List (Int × Int) := (hvG (wjv σ o m p) (hdm m p (σ 64 37)) (σ 88) (σ 89) (σ 64 40).toNat 8 x (hvA (m (48 + p), []) x (wjv σ o m p (m (48 + p)) x))).2
theorem hv_start {σ : Mem} (hM : MarkI σ) {o : Option (List Cla)} {T P D B : Int} {m : Int → Int} (hW : RowW T P D B m) (hT : T = σ 64 37) (q : Int) (h0 : 0 ≤ m 114 ∧ m 114 ≤ 60) {p x : Int} (hp : 0 ≤ p ∧ p < 6) (hx : 0 ≤ x ∧ x < σ 64 37) (hc : 0 < m (8 * p + x)) : HvI q m p (σ 64 37) (hvA (m (48 + p), []) x (wjv σ o m p (m (48 + p)) x)) := by
  subst hT
  have n1 := hM.2.1.1
  have p2 := p2_le n1
  have had := hW.2.1 p hp.1 hp.2
  have had0 := hW.1 (48 + p) (by omega) (by omega)
  have s : HvI q m p (σ 64 37) (m (48 + p), []) := ⟨⟨by omega, by omega⟩, True.intro, rfl, fun _ _ _ _ => rfl, by show ((0 : Nat) : Int) ≤ bcF (m (48 + p)); have := bcF_r (s := m (48 + p)) ⟨by omega, by omega⟩; omega⟩
  exact s.add h0 hp n1 hx (wjv_r hM o m p _ x) hc (by show ((0 : Nat) : Int) + 1 ≤ bcF (ins (m (48 + p)) x); have := bcF_pos (s := m (48 + p)) (x := x) ⟨by omega, by omega⟩ ⟨by omega, by omega⟩; omega)
theorem hvs_ok {σ : Mem} (hM : MarkI σ) {o : Option (List Cla)} {T P D B : Int} {m : Int → Int} (hW : RowW T P D B m) (hT : T = σ 64 37) (q : Int) (h0 : 0 ≤ m 114 ∧ m 114 ≤ 60) {p x : Int} (hp : 0 ≤ p ∧ p < 6) (hx : 0 ≤ x ∧ x < σ 64 37) (hc : 0 < m (8 * p + x)) : GOK q m p (σ 64 37) (hvs σ o m p x) ∧ ((hvs σ o m p x).length : Int) ≤ 8 := by
  have n1 := hM.2.1.1
  have p2 := p2_le n1
  have m5 := hM.2.2.2.2.2.2
  have hct : ∀ i, 0 ≤ i → i < (((σ 64 40).toNat : Nat) : Int) → 0 ≤ σ 89 i ∧ σ 89 i < σ 64 37 := fun i i0 i1 => (m5 i i0 (by omega)).2.2.1
  have hhd : ∀ u, 0 ≤ u → bt (hdm m p (σ 64 37)) u = true → u < σ 64 37 ∧ 0 < m (8 * p + u) := fun u u0 hb => ((hdm_r n1).2.2 u u0).mp hb
  have s := hv_start (o := o) hM hW hT q h0 hp hx hc
  obtain ⟨-, okG⟩ := hv_ok (w := wjv σ o m p) (hd := hdm m p (σ 64 37)) (cf := σ 88) (ct := σ 89) (C := (σ 64 40).toNat) (q := q) h0 hp n1 (fun s x => wjv_r hM o m p s x) hct hhd
  obtain ⟨a, -, -⟩ := okG 8 x _ s
  have b := (bcF_r ⟨a.1.1, Int.lt_of_lt_of_le a.1.2 p2⟩).2
  exact ⟨a.2.1, Int.le_trans a.2.2.2.2 b⟩
theorem doHave37 {σ : Mem} (hM : MarkI σ) {o : Option (List Cla)} (hH : Held σ o) {T P D B : Int} {m : Int → Int} (hS : RowS (σ 38) m) (hW : RowW T P D B m) (hB : B ≤ 47952) (hT : T = σ 64 37) (hDD : D ≤ 4000) (h0 : 0 ≤ m 114 ∧ m 114 ≤ 60) (h2 : 0 ≤ σ 38 2 ∧ σ 38 2 ≤ 60) (d : Nat) {p x : Int} (hp : 0 ≤ p ∧ p < σ 64 38) (hx : 0 ≤ x ∧ x < σ 64 37) (hc : 0 < m (8 * p + x)) {Q : RV → Mem → Prop}
    (hQ : ∀ τ, Sm σ τ [28, 45, 46, 47, 48, 49, 38] [] → τ 38 = gcL (σ 38) p (hvs σ o m p x) → Q (rI (tot (hvs σ o m p x))) τ) : Cl (d + 18) mF_doHave [aR 11, aR 37, aI p, aI x] σ Q := by
  have n1 := hM.2.1.1
  have n2 := hM.2.1.2.1
  have n4 := hM.2.1.2.2.2
  have m4 := hM.1.2.2.2
  have p2 := p2_le n1
  obtain ⟨b1, b2, b3, b4⟩ := hW.ltB (by rw [hT]; exact n1) (by omega : D ≤ 5000) (p := p) (by omega)
  have bb := bcF_r b2
  have hs := hv_start (o := o) hM hW hT 0 h0 (p := p) (by omega) hx hc
  obtain ⟨ok1, ok2⟩ := hvs_ok (o := o) hM hW hT 0 h0 (p := p) (by omega) hx hc
  obtain ⟨hd1, hd2, hd3⟩ := hdm_r (m := m) (p := p) n1
  refine bF_doHave_r11_r37_in ?_
  rw [m4]
  refine lookS37 hM hH hS hW hT hDD (d + 12) hp (k := 0) (by decide) (j := σ 64 40) (by omega) (fun τ1 s1 tb => ⟨(by omega), (by omega), ?_⟩)
  have hM1 := hM.sm' s1 (by decide)
  have e37 : τ1 64 37 = σ 64 37 := by rw [s1.1 64 rfl]
  have e3 : τ1 38 (3 + p * 4 + 3) = m (48 + p) := by rw [s1.1 38 rfl]; exact Cor.eq hS (Cor.had (by omega))
  refine heldBy37 hM1 (by rw [s1.1 38 rfl]; exact hS) hW hB (d + 14) (p := p) (by omega) ?_
  rw [e37, e3]
  refine bHa_begin_in ?_
  have s2 : Sm τ1 (ups (ups (ups (ups τ1 47 4 0) 47 5 0) 47 6 (m (48 + p))) 47 7 (hdm m p (σ 64 37))) [47] [] := (((Sm.refl.ups rfl (Or.inl (by decide))).ups rfl (Or.inl (by decide))).ups rfl (Or.inl (by decide))).ups rfl (Or.inl (by decide))
  have cs : CsH (ups (ups (ups (ups τ1 47 4 0) 47 5 0) 47 6 (m (48 + p))) 47 7 (hdm m p (σ 64 37))) (hdm m p (σ 64 37)) (m (48 + p), []) := by
    refine ⟨⟨?_, ?_, ?_, ?_⟩, True.intro⟩
    · rw [ups_fn (by omega), ups_fn (by omega), ups_fn (by omega), ups_hit]; rfl
    · rw [ups_fn (by omega), ups_fn (by omega), ups_hit]; rfl
    · rw [ups_fn (by omega), ups_hit]
    · rw [ups_hit]
  generalize (ups (ups (ups (ups τ1 47 4 0) 47 5 0) 47 6 (m (48 + p))) 47 7 (hdm m p (σ 64 37))) = τ2 at *
  have s12 : Sm σ τ2 [28, 45, 46, 47, 48, 49] [] := (s1.mono (by decide) (by decide)).trans (s2.mono (by decide) (by decide))
  have hM2 := hM.sm' s12 (by decide)
  have f64 : τ2 64 = σ 64 := s12.1 64 rfl
  have hD : Dl τ2 (wjv σ o m p) (bcF (m (48 + p))) (min (σ 64 37) (bcF (m (48 + p)) + σ 64 40)) := by
    intro τ sm d' s y hs8 lo hi y0 y1
    rw [f64] at y1
    have t := tb (bcF s) y lo hi y0 y1
    rw [Int.add_zero, Int.add_zero, show min 99 (m (66 + p)) = m (66 + p) by omega] at t
    have t3 : τ 46 (bcF s * 8 + y) = whF o (ltr (σ 82 y) (σ 83 y) (m 72) (m (66 + p)) (m (60 + p)) (if σ 84 p = y then 1 else 0) (bcF s)) := by
      rw [sm.1 46 rfl, s2.1 46 rfl]; exact t
    refine delightC (hM2.sm' sm (by decide)) d' ⟨by omega, by omega⟩ hs8 t3 (whF_r _ _) ⟨?_, rfl⟩
    unfold wjv
    rw [spv_cg (σ := σ) (by rw [sm.1 64 rfl, f64]) ⟨by rw [sm.1 85 rfl, s12.1 85 rfl], by rw [sm.1 86 rfl, s12.1 86 rfl], by rw [sm.1 87 rfl, s12.1 87 rfl]⟩]
  have hc6 : τ2 47 6 = m (48 + p) := cs.1.2.2.1
  refine bHa_take_in ?_
  rw [hc6]
  have wr := wjv_r hM o m p (m (48 + p)) x
  refine Cl.mono (hD τ2 Sm.refl (d + 13) (m (48 + p)) x b2 (Int.le_refl _) (by rw [hT] at b3; omega) hx.1 (by rw [f64]; exact hx.2)) (fun r τ' hr => ?_)
  obtain ⟨rfl, rfl⟩ := hr
  refine addC cs (d + 15) (by show ((0 : Nat) : Int) < 8; decide) (fun τ3 s3 cs3 => ?_)
  have bp := bcF_pos (s := m (48 + p)) (x := x) b2 ⟨by omega, by omega⟩
  have pl := ptt_le (σ 89) (σ 64 40).toNat (ins (m (48 + p)) x)
  have b3' : bcF (m (48 + p)) ≤ bcF (ins (m (48 + p)) x) := by
    cases c : bt (m (48 + p)) x
    · rw [bcF_ins b2 ⟨by omega, by omega⟩ c]; omega
    · rw [ins_in b2 ⟨by omega, by omega⟩ c]; exact Int.le_refl _
  have e88 : τ' 88 = σ 88 ∧ τ' 89 = σ 89 := ⟨s12.1 88 rfl, s12.1 89 rfl⟩
  have br := bringC hM2 (w := wjv σ o m p) (hd := hdm m p (σ 64 37)) hd2 hD (q := 0) (m := m) (p := p) h0 (by omega) (fun s x => wjv_r hM o m p s x) (fun u u0 hb => by rw [f64]; exact (hd3 u u0).mp hb) 8 (d + 4) x (hvA (m (48 + p), []) x (wjv σ o m p (m (48 + p)) x)) τ3 (fun r6 τ7 => oV r6 (Ev (d + 18) mF_doHave 47 [vR 11, vR 37, vI p, vI x, vI 0] [] τ7 Q)) (by decide) ⟨by omega, by omega⟩ (by rw [f64]; exact hs) b3' (by
    rw [f64, e88.2]
    have pl2 : ptt (σ 89) (σ 64 40).toNat (hvA (m (48 + p), []) x (wjv σ o m p (m (48 + p)) x)).1 = ptt (σ 89) (σ 64 40).toNat (ins (m (48 + p)) x) := rfl
    have bp2 : bcF (hvA (m (48 + p), []) x (wjv σ o m p (m (48 + p)) x)).1 = bcF (ins (m (48 + p)) x) := rfl
    rw [pl2, bp2]
    by_cases c : σ 64 37 ≤ bcF (m (48 + p)) + σ 64 40
    · left; omega
    · right; omega) s3 cs3 (fun τ4 s4 cs4 => ?_)
  · exact br
  · rw [f64, e88.1, e88.2] at cs4
    obtain ⟨⟨c4, c5, c6, c7⟩, ce⟩ := cs4
    have s4' : Sm σ τ4 [28, 45, 46, 47, 48, 49, 38] [] := (s12.trans (s4.mono (by decide) (by decide))).mono (by decide) (by decide)
    have e40 : τ4 38 = σ 38 := by rw [s4.1 38 rfl, s12.1 38 rfl]
    -- the gains, the oldest first
    have gl : ∀ l : List (Int × Int), GOK 0 m p (σ 64 37) l → EntS τ4 l → (l.length : Int) ≤ ((hvs σ o m p x).length : Int) → (∀ τ, Sm τ4 τ [38] [] → τ 38 = gcL (σ 38) p l → Ev (d + 18) mF_doHave 47 [vR 11, vR 37, vI p, vI x, vI (l.length : Int)] [] τ Q) → Ev (d + 18) mF_doHave 47 [vR 11, vR 37, vI p, vI x, vI 0] [] τ4 Q := by
      intro l
      induction l with
      | nil => exact fun _ _ _ k => k τ4 Sm.refl e40
      | cons e l ih =>
        intro g en hl k
        rw [List.length_cons] at hl
        refine ih g.2 en.2 (by omega) (fun τ sm he => ?_)
        have z2 : τ 38 2 = gcL (σ 38) p l 2 := by rw [he]
        have n2' := gcL_2 h2 (p := p) (by omega) (by omega : σ 64 37 ≤ 8) g.2
        have t4 : τ 47 4 = ((hvs σ o m p x).length : Int) := by rw [sm.1 47 rfl]; exact c4
        refine bF_doHave_r11_r37_47 ⟨⟨by omega, by omega⟩, by rw [t4]; exact ⟨by omega, by omega⟩, fun z => absurd z (by rw [t4]; omega), fun _ => ⟨(by omega), (by omega), ?_⟩⟩
        rw [sm.1 48 rfl, sm.1 49 rfl, en.1.1, en.1.2]
        have g1 := g.1
        refine gain37 (d + 15) (by omega) ⟨by omega, by omega⟩ (by rw [z2]; exact n2') (fun τ5 s5 e5 => ?_)
        have k2 := k τ5 (sm.trans s5) (by rw [e5, he]; rfl)
        rw [List.length_cons] at k2
        exact k2
    refine gl (hvs σ o m p x) ok1 ce (Int.le_refl _) (fun τ sm he => ?_)
    have t4 : τ 47 4 = ((hvs σ o m p x).length : Int) := by rw [sm.1 47 rfl]; exact c4
    have t5 : τ 47 5 = tot (hvs σ o m p x) := by rw [sm.1 47 rfl]; exact c5
    refine bF_doHave_r11_r37_47 ⟨⟨by omega, by omega⟩, by rw [t4]; exact ⟨by omega, by omega⟩, fun _ => ?_, fun z => absurd z (by rw [t4]; omega)⟩
    rw [t5]
    exact hQ τ (s4'.trans (sm.mono (by decide) (by decide))) he
theorem doHave39 {σ : Mem} (hM : MarkI σ) {o : Option (List Cla)} (hH : Held σ o) {T P D B : Int} {m : Int → Int} (hS : RowS (σ 40) m) (hW : RowW T P D B m) (hB : B ≤ 47952) (hT : T = σ 64 37) (hDD : D ≤ 4000) (h0 : 0 ≤ m 114 ∧ m 114 ≤ 60) (h2 : 0 ≤ σ 40 2 ∧ σ 40 2 ≤ 60) (d : Nat) {p x : Int} (hp : 0 ≤ p ∧ p < σ 64 38) (hx : 0 ≤ x ∧ x < σ 64 37) (hc : 0 < m (8 * p + x)) {Q : RV → Mem → Prop}
    (hQ : ∀ τ, Sm σ τ [28, 45, 46, 47, 48, 49, 40] [] → τ 40 = gcL (σ 40) p (hvs σ o m p x) → Q (rI (tot (hvs σ o m p x))) τ) : Cl (d + 18) mF_doHave [aR 11, aR 39, aI p, aI x] σ Q := by
  have n1 := hM.2.1.1
  have n2 := hM.2.1.2.1
  have n4 := hM.2.1.2.2.2
  have m4 := hM.1.2.2.2
  have p2 := p2_le n1
  obtain ⟨b1, b2, b3, b4⟩ := hW.ltB (by rw [hT]; exact n1) (by omega : D ≤ 5000) (p := p) (by omega)
  have bb := bcF_r b2
  have hs := hv_start (o := o) hM hW hT 0 h0 (p := p) (by omega) hx hc
  obtain ⟨ok1, ok2⟩ := hvs_ok (o := o) hM hW hT 0 h0 (p := p) (by omega) hx hc
  obtain ⟨hd1, hd2, hd3⟩ := hdm_r (m := m) (p := p) n1
  refine bF_doHave_r11_r39_in ?_
  rw [m4]
  refine lookS39 hM hH hS hW hT hDD (d + 12) hp (k := 0) (by decide) (j := σ 64 40) (by omega) (fun τ1 s1 tb => ⟨(by omega), (by omega), ?_⟩)
  have hM1 := hM.sm' s1 (by decide)
  have e37 : τ1 64 37 = σ 64 37 := by rw [s1.1 64 rfl]
  have e3 : τ1 40 (3 + p * 4 + 3) = m (48 + p) := by rw [s1.1 40 rfl]; exact Cor.eq hS (Cor.had (by omega))
  refine heldBy39 hM1 (by rw [s1.1 40 rfl]; exact hS) hW hB (d + 14) (p := p) (by omega) ?_
  rw [e37, e3]
  refine bHa_begin_in ?_
  have s2 : Sm τ1 (ups (ups (ups (ups τ1 47 4 0) 47 5 0) 47 6 (m (48 + p))) 47 7 (hdm m p (σ 64 37))) [47] [] := (((Sm.refl.ups rfl (Or.inl (by decide))).ups rfl (Or.inl (by decide))).ups rfl (Or.inl (by decide))).ups rfl (Or.inl (by decide))
  have cs : CsH (ups (ups (ups (ups τ1 47 4 0) 47 5 0) 47 6 (m (48 + p))) 47 7 (hdm m p (σ 64 37))) (hdm m p (σ 64 37)) (m (48 + p), []) := by
    refine ⟨⟨?_, ?_, ?_, ?_⟩, True.intro⟩
    · rw [ups_fn (by omega), ups_fn (by omega), ups_fn (by omega), ups_hit]; rfl
    · rw [ups_fn (by omega), ups_fn (by omega), ups_hit]; rfl
    · rw [ups_fn (by omega), ups_hit]
    · rw [ups_hit]
  generalize (ups (ups (ups (ups τ1 47 4 0) 47 5 0) 47 6 (m (48 + p))) 47 7 (hdm m p (σ 64 37))) = τ2 at *
  have s12 : Sm σ τ2 [28, 45, 46, 47, 48, 49] [] := (s1.mono (by decide) (by decide)).trans (s2.mono (by decide) (by decide))
  have hM2 := hM.sm' s12 (by decide)
  have f64 : τ2 64 = σ 64 := s12.1 64 rfl
  have hD : Dl τ2 (wjv σ o m p) (bcF (m (48 + p))) (min (σ 64 37) (bcF (m (48 + p)) + σ 64 40)) := by
    intro τ sm d' s y hs8 lo hi y0 y1
    rw [f64] at y1
    have t := tb (bcF s) y lo hi y0 y1
    rw [Int.add_zero, Int.add_zero, show min 99 (m (66 + p)) = m (66 + p) by omega] at t
    have t3 : τ 46 (bcF s * 8 + y) = whF o (ltr (σ 82 y) (σ 83 y) (m 72) (m (66 + p)) (m (60 + p)) (if σ 84 p = y then 1 else 0) (bcF s)) := by
      rw [sm.1 46 rfl, s2.1 46 rfl]; exact t
    refine delightC (hM2.sm' sm (by decide)) d' ⟨by omega, by omega⟩ hs8 t3 (whF_r _ _) ⟨?_, rfl⟩
    unfold wjv
    rw [spv_cg (σ := σ) (by rw [sm.1 64 rfl, f64]) ⟨by rw [sm.1 85 rfl, s12.1 85 rfl], by rw [sm.1 86 rfl, s12.1 86 rfl], by rw [sm.1 87 rfl, s12.1 87 rfl]⟩]
  have hc6 : τ2 47 6 = m (48 + p) := cs.1.2.2.1
  refine bHa_take_in ?_
  rw [hc6]
  have wr := wjv_r hM o m p (m (48 + p)) x
  refine Cl.mono (hD τ2 Sm.refl (d + 13) (m (48 + p)) x b2 (Int.le_refl _) (by rw [hT] at b3; omega) hx.1 (by rw [f64]; exact hx.2)) (fun r τ' hr => ?_)
  obtain ⟨rfl, rfl⟩ := hr
  refine addC cs (d + 15) (by show ((0 : Nat) : Int) < 8; decide) (fun τ3 s3 cs3 => ?_)
  have bp := bcF_pos (s := m (48 + p)) (x := x) b2 ⟨by omega, by omega⟩
  have pl := ptt_le (σ 89) (σ 64 40).toNat (ins (m (48 + p)) x)
  have b3' : bcF (m (48 + p)) ≤ bcF (ins (m (48 + p)) x) := by
    cases c : bt (m (48 + p)) x
    · rw [bcF_ins b2 ⟨by omega, by omega⟩ c]; omega
    · rw [ins_in b2 ⟨by omega, by omega⟩ c]; exact Int.le_refl _
  have e88 : τ' 88 = σ 88 ∧ τ' 89 = σ 89 := ⟨s12.1 88 rfl, s12.1 89 rfl⟩
  have br := bringC hM2 (w := wjv σ o m p) (hd := hdm m p (σ 64 37)) hd2 hD (q := 0) (m := m) (p := p) h0 (by omega) (fun s x => wjv_r hM o m p s x) (fun u u0 hb => by rw [f64]; exact (hd3 u u0).mp hb) 8 (d + 4) x (hvA (m (48 + p), []) x (wjv σ o m p (m (48 + p)) x)) τ3 (fun r6 τ7 => oV r6 (Ev (d + 18) mF_doHave 47 [vR 11, vR 39, vI p, vI x, vI 0] [] τ7 Q)) (by decide) ⟨by omega, by omega⟩ (by rw [f64]; exact hs) b3' (by
    rw [f64, e88.2]
    have pl2 : ptt (σ 89) (σ 64 40).toNat (hvA (m (48 + p), []) x (wjv σ o m p (m (48 + p)) x)).1 = ptt (σ 89) (σ 64 40).toNat (ins (m (48 + p)) x) := rfl
    have bp2 : bcF (hvA (m (48 + p), []) x (wjv σ o m p (m (48 + p)) x)).1 = bcF (ins (m (48 + p)) x) := rfl
    rw [pl2, bp2]
    by_cases c : σ 64 37 ≤ bcF (m (48 + p)) + σ 64 40
    · left; omega
    · right; omega) s3 cs3 (fun τ4 s4 cs4 => ?_)
  · exact br
  · rw [f64, e88.1, e88.2] at cs4
    obtain ⟨⟨c4, c5, c6, c7⟩, ce⟩ := cs4
    have s4' : Sm σ τ4 [28, 45, 46, 47, 48, 49, 40] [] := (s12.trans (s4.mono (by decide) (by decide))).mono (by decide) (by decide)
    have e40 : τ4 40 = σ 40 := by rw [s4.1 40 rfl, s12.1 40 rfl]
    -- the gains, the oldest first
    have gl : ∀ l : List (Int × Int), GOK 0 m p (σ 64 37) l → EntS τ4 l → (l.length : Int) ≤ ((hvs σ o m p x).length : Int) → (∀ τ, Sm τ4 τ [40] [] → τ 40 = gcL (σ 40) p l → Ev (d + 18) mF_doHave 47 [vR 11, vR 39, vI p, vI x, vI (l.length : Int)] [] τ Q) → Ev (d + 18) mF_doHave 47 [vR 11, vR 39, vI p, vI x, vI 0] [] τ4 Q := by
      intro l
      induction l with
      | nil => exact fun _ _ _ k => k τ4 Sm.refl e40
      | cons e l ih =>
        intro g en hl k
        rw [List.length_cons] at hl
        refine ih g.2 en.2 (by omega) (fun τ sm he => ?_)
        have z2 : τ 40 2 = gcL (σ 40) p l 2 := by rw [he]
        have n2' := gcL_2 h2 (p := p) (by omega) (by omega : σ 64 37 ≤ 8) g.2
        have t4 : τ 47 4 = ((hvs σ o m p x).length : Int) := by rw [sm.1 47 rfl]; exact c4
        refine bF_doHave_r11_r39_47 ⟨⟨by omega, by omega⟩, by rw [t4]; exact ⟨by omega, by omega⟩, fun z => absurd z (by rw [t4]; omega), fun _ => ⟨(by omega), (by omega), ?_⟩⟩
        rw [sm.1 48 rfl, sm.1 49 rfl, en.1.1, en.1.2]
        have g1 := g.1
        refine gain39 (d + 15) (by omega) ⟨by omega, by omega⟩ (by rw [z2]; exact n2') (fun τ5 s5 e5 => ?_)
        have k2 := k τ5 (sm.trans s5) (by rw [e5, he]; rfl)
        rw [List.length_cons] at k2
        exact k2
    refine gl (hvs σ o m p x) ok1 ce (Int.le_refl _) (fun τ sm he => ?_)
    have t4 : τ 47 4 = ((hvs σ o m p x).length : Int) := by rw [sm.1 47 rfl]; exact c4
    have t5 : τ 47 5 = tot (hvs σ o m p x) := by rw [sm.1 47 rfl]; exact c5
    refine bF_doHave_r11_r39_47 ⟨⟨by omega, by omega⟩, by rw [t4]; exact ⟨by omega, by omega⟩, fun _ => ?_, fun z => absurd z (by rw [t4]; omega)⟩
    rw [t5]
    exact hQ τ (s4'.trans (sm.mono (by decide) (by decide))) he

