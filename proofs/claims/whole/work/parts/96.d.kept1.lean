/-! ===== KEPT BY A HABIT: ONE DAY ===== -/
/-- cells and row belong together, with another last day -/
def KM (σ : Mem) (D : Int) (c m : Int → Int) : Prop := RowS c m ∧ RowW (σ 64 37) (σ 64 38) D 47952 m ∧ (0 ≤ m 114 ∧ m 114 ≤ 60) ∧ (0 ≤ c 2 ∧ c 2 ≤ 60) ∧ RG c ∧ RG m
theorem km_mO {σ : Mem} {D : Int} {c m : Int → Int} (h : KM σ D c m) : KM σ D c (mO c) := by
  obtain ⟨s, w, e⟩ := mO_W h.1 h.2.1
  refine ⟨s, w, by rw [e]; decide, h.2.2.2.1, h.2.2.2.2.1, ?_⟩
  exact (RG.mOf' h.2.2.2.2.1).offu (by decide)
theorem KM_cg {σ τ : Mem} (sk : SmMk σ τ) {D : Int} {c m : Int → Int} (h : KM σ D c m) : KM τ D c m := by
  unfold KM; rw [sk.2.1, sk.2.2.1]; exact h
theorem gcL_RG4 {m c : Int → Int} {p T P D B : Int} (q : Int) (hS : RowS c m) (hW : RowW T P D B m) (hD : D ≤ 4000) (hB : B ≤ 47952) (h0 : 0 ≤ m 114 ∧ m 114 ≤ 60) (h2 : 0 ≤ c 2 ∧ c 2 ≤ 60) (hp : 0 ≤ p ∧ p < 6) (hT : 0 ≤ T ∧ T ≤ 8) (hc : RG c) (hm : RG m) : ∀ {l : List (Int × Int)}, GOK q m p T l → RG (gcL c p l) ∧ RG (gnL q m p l)
  | [], _ => ⟨hc, hm⟩
  | e :: l, g => by
    obtain ⟨a, b⟩ := gcL_RG4 q hS hW hD hB h0 h2 hp hT hc hm g.2
    have w := gnL_W hW h0 hp hT g.2
    have s := gcL_S hS hW h0 hp hT g.2
    have n2 := gcL_2 h2 hp hT.2 g.2
    have n114 := gnL_114 h0 hp hT.2 g.2
    have d := w.2.2.2.2.2.1
    have g1 := g.1
    show RG (gc1 (gcL c p l) p e.1 e.2) ∧ RG (gn1 q (gnL q m p l) p e.1 e.2)
    generalize gcL c p l = c' at *
    generalize gnL q m p l = m' at *
    obtain ⟨x, v⟩ := e
    dsimp only at g1 ⊢
    have p2 := p2_le hT
    have f48 := w.f48 hB (i := 8 * p + x) (by omega) (by omega)
    have hj := w.1 (54 + p) (by omega) (by omega)
    have hj2 : m' (54 + p) ≤ 47952 := by
      have s1 := sumI_le (f := fun i => m' (54 + i)) hp.1 (n := 6) (fun i h0 h1 => w.1 _ (by omega) (by omega)) (by omega)
      have s2 := sumI_nn (f := m') (n := 48) (fun i h0 h1 => w.1 i h0 (by omega))
      have s3 := w.2.2.1
      have s4 := w.2.2.2.2.2.2.1
      omega
    have had := w.2.1 p hp.1 hp.2
    have had0 := w.1 (48 + p) (by omega) (by omega)
    have e1 : c' (27 + p * 8 + x) = m' (8 * p + x) := Cor.eq s (Cor.fst hp ⟨by omega, by omega⟩)
    have e2 : c' (3 + p * 4 + 3) = m' (48 + p) := Cor.eq s (Cor.had hp)
    have e3 : c' (3 + p * 4 + 2) = m' (54 + p) := Cor.eq s (Cor.joy hp)
    have il := ins_lt (m := 8) (s := m' (48 + p)) (t := x) ⟨by omega, by omega⟩ ⟨by omega, by omega⟩ (by decide)
    have i8 : (2 : Int) ^ 8 = 256 := by decide
    have e0 : c' 0 = m' 72 := s.1.1
    refine ⟨a.gc (by rw [e1]; exact ⟨by omega, by omega⟩) ?_ ?_ (by rw [e0]; exact ⟨by omega, by omega⟩) n2.1 hp ⟨by omega, by omega⟩, b.gn q hp ⟨by omega, by omega⟩ g1.2.1 n114 ⟨by omega, by omega⟩ ?_ ?_⟩
    · rw [fu_ne (by omega), e2]; exact ⟨by omega, by omega⟩
    · rw [fu_ne (by omega), fu_ne (by omega), e3]; exact ⟨by omega, by omega⟩
    · rw [fu_ne (by omega)]; exact ⟨by omega, by omega⟩
    · rw [fu_ne (by omega), fu_ne (by omega)]; exact ⟨by omega, by omega⟩
theorem km_hv {σ : Mem} (hM : MarkI σ) {o : Option (List Cla)} {D : Int} (hD : D ≤ 4000) (q : Int) {c m : Int → Int} (h : KM σ D c m) {p x : Int} (hp : 0 ≤ p ∧ p < 6) (hx : 0 ≤ x ∧ x < σ 64 37) (hc : 0 < m (8 * p + x)) : KM σ D (gcL c p (hvs σ o m p x)) (gnL q m p (hvs σ o m p x)) := by
  obtain ⟨hS, hW, h0, h2, hgc, hgm⟩ := h
  have n1 := hM.2.1.1
  obtain ⟨ok, -⟩ := hvs_ok (o := o) hM hW rfl q h0 hp hx hc
  have r := gcL_RG4 q hS hW hD (Int.le_refl _) h0 h2 hp n1 hgc hgm ok
  exact ⟨gcL_S hS hW h0 hp n1 ok, gnL_W hW h0 hp n1 ok, gnL_114 h0 hp n1.2 ok, gcL_2 h2 hp n1.2 ok, r.1, r.2⟩
theorem km_day {σ : Mem} (hM : MarkI σ) {D : Int} {c m c' m' : Int → Int} (h : KM σ D c m) (hC : DayC (σ 64 38) c c') (hD : DayM (σ 64 38) m m') : KM σ (D + 1) c' m' := by
  obtain ⟨hS, hW, h0, h2, hgc, hgm⟩ := h
  have n1 := hM.2.1.1
  have n2 := hM.2.1.2.1
  exact ⟨hS.day hW.2.2.2.2.2.2.1 hC hD, hW.day n1 n2 hD, by rw [hD.2.2.2.2.2.1 114 (by decide)]; exact h0, by rw [hC.2.2.2.2.1 2 (Or.inl rfl)]; exact h2, hC.2.2.2.2.2, hD.2.2.2.2.2.2⟩
theorem km_dayC {σ : Mem} (hM : MarkI σ) {D : Int} {c c' : Int → Int} (h : KM σ D c (mO c)) (hC : DayC (σ 64 38) c c') : KM σ (D + 1) c' (mO c') := by
  obtain ⟨hS, hW, h0, h2, hgc, hgm⟩ := h
  have n1 := hM.2.1.1
  have n2 := hM.2.1.2.1
  have w1 : RowW (σ 64 37) (σ 64 38) D 47952 (mOf c) := hW.cg (fun i i0 i1 => by unfold mO; rw [fu_ne (by omega)])
  have w2 := w1.day n1 n2 hC.M
  obtain ⟨s, w, e⟩ := mO_W (rowS_mOf c') w2
  exact ⟨s, w, by rw [e]; decide, by rw [hC.2.2.2.2.1 2 (Or.inl rfl)]; exact h2, hC.2.2.2.2.2, (RG.mOf' hC.2.2.2.2.2).offu (by decide)⟩
theorem hdm_cg {m m' : Int → Int} {p T : Int} (hT : 0 ≤ T ∧ T ≤ 8) (h : ∀ t, 0 ≤ t → t < T → m' (8 * p + t) = m (8 * p + t)) : hdm m' p T = hdm m p T := bldS_cg (fun i i0 i1 => by rw [h i i0 (by omega)])
theorem hvs_lo {σ : Mem} (hM : MarkI σ) {o : Option (List Cla)} {m m' : Int → Int} {p x : Int} (hp : 0 ≤ p ∧ p < 6) (h : ∀ i, 0 ≤ i → i < 74 → m' i = m i) : hvs σ o m' p x = hvs σ o m p x := by
  have n1 := hM.2.1.1
  unfold hvs
  rw [wjv_m (σ := σ) (o := o) (p := p) (h 72 (by decide) (by decide)) (h _ (by omega) (by omega)) (h _ (by omega) (by omega)), hdm_cg (p := p) n1 (fun t t0 t1 => h _ (by omega) (by omega)), h (48 + p) (by omega) (by omega)]
theorem hvR_m {σ : Mem} (hM : MarkI σ) {o : Option (List Cla)} {m m' : Int → Int} {p : Int} (th : Int) (hp : 0 ≤ p ∧ p < 6) (h : ∀ i, 0 ≤ i → i < 74 → m' i = m i) : hvR σ o m' p = hvR σ o m p ∧ lvR σ m' p th = lvR σ m p th := by
  have n1 := hM.2.1.1
  unfold hvR lvR
  rw [wjv_m (σ := σ) (o := o) (p := p) (h 72 (by decide) (by decide)) (h _ (by omega) (by omega)) (h _ (by omega) (by omega)), hdm_cg (p := p) n1 (fun t t0 t1 => h _ (by omega) (by omega))]
  exact ⟨rfl, rfl⟩
/-- what a thing is worth to a habit -/
def mer (σ : Mem) (o : Option (List Cla)) (hb : Int) (m : Int → Int) (p t : Int) : Int := if hb = 1 then wjv σ o m p (m (48 + p)) t else if hb = 2 then -(sumI (hrm σ t (dif (hdm m p (σ 64 37)) (m (48 + p)))) (σ 64 39).toNat) else 0
def opn (σ : Mem) (m : Int → Int) (p t : Int) : Bool := bt (hdm m p (σ 64 37)) t && !bt (m (48 + p)) t
def pks (L : Int → Bool) (f : Int → Int) : Nat → Int × Int
  | 0 => (-1, 0)
  | n + 1 => if L (Int.ofNat n) = true ∧ ((pks L f n).1 = -1 ∨ (pks L f n).2 < f (Int.ofNat n)) then (Int.ofNat n, f (Int.ofNat n)) else pks L f n
theorem pks_S {L : Int → Bool} {f : Int → Int} {i : Int} (h : 0 ≤ i) : pks L f (i + 1).toNat = if L i = true ∧ ((pks L f i.toNat).1 = -1 ∨ (pks L f i.toNat).2 < f i) then (i, f i) else pks L f i.toNat := by
  rw [show (i + 1).toNat = i.toNat + 1 by omega]
  show (if L (Int.ofNat i.toNat) = true ∧ ((pks L f i.toNat).1 = -1 ∨ (pks L f i.toNat).2 < f (Int.ofNat i.toNat)) then (Int.ofNat i.toNat, f (Int.ofNat i.toNat)) else pks L f i.toNat) = _
  rw [show Int.ofNat i.toNat = i from Int.toNat_of_nonneg h]
theorem pks_r {L : Int → Bool} {f : Int → Int} (hf : ∀ t, -1000 ≤ f t ∧ f t ≤ 1000) : ∀ n : Nat, (-1000 ≤ (pks L f n).2 ∧ (pks L f n).2 ≤ 1000) ∧ ((pks L f n).1 = -1 ∨ ((0 ≤ (pks L f n).1 ∧ (pks L f n).1 < (n : Int)) ∧ L (pks L f n).1 = true))
  | 0 => ⟨(show -1000 ≤ (0 : Int) ∧ (0 : Int) ≤ 1000 by decide), Or.inl rfl⟩
  | n + 1 => by
    obtain ⟨a, b⟩ := pks_r hf n
    unfold pks
    split
    · rename_i c
      exact ⟨hf _, Or.inr ⟨⟨Int.ofNat_nonneg n, by show ((n : Nat) : Int) < _; omega⟩, c.1⟩⟩
    · refine ⟨a, ?_⟩
      rcases b with b | b
      · exact Or.inl b
      · exact Or.inr ⟨⟨b.1.1, by omega⟩, b.2⟩
def pk (σ : Mem) (o : Option (List Cla)) (hb : Int) (m : Int → Int) (p : Int) : Int := if hb = 3 then -1 else (pks (opn σ m p) (mer σ o hb m p) (σ 64 37).toNat).1
theorem mer_r {σ : Mem} (hM : MarkI σ) (o : Option (List Cla)) (hb : Int) (m : Int → Int) (p t : Int) : -1000 ≤ mer σ o hb m p t ∧ mer σ o hb m p t ≤ 1000 := by
  have a := wjv_r hM o m p (m (48 + p)) t
  have n3 := hM.2.1.2.2.1
  have b := hrm_r hM t (dif (hdm m p (σ 64 37)) (m (48 + p))) (i := σ 64 39) ⟨by omega, by omega⟩
  unfold mer
  split
  · exact ⟨by omega, by omega⟩
  · split
    · exact ⟨by omega, by omega⟩
    · decide
theorem pk_r {σ : Mem} (hM : MarkI σ) (o : Option (List Cla)) (hb : Int) (m : Int → Int) (p : Int) : pk σ o hb m p = -1 ∨ ((0 ≤ pk σ o hb m p ∧ pk σ o hb m p < σ 64 37) ∧ 0 < m (8 * p + pk σ o hb m p)) := by
  have n1 := hM.2.1.1
  unfold pk
  split
  · exact Or.inl rfl
  · rcases (pks_r (L := opn σ m p) (f := mer σ o hb m p) (fun t => mer_r hM o hb m p t) (σ 64 37).toNat).2 with b | ⟨b, c⟩
    · exact Or.inl b
    · unfold opn at c
      rw [Bool.and_eq_true] at c
      exact Or.inr ⟨⟨by omega, by omega⟩, (((hdm_r (m := m) (p := p) n1).2.2 _ b.1).mp c.1).2⟩
theorem pk_m {σ : Mem} (hM : MarkI σ) {o : Option (List Cla)} {hb : Int} {m m' : Int → Int} {p : Int} (hp : 0 ≤ p ∧ p < 6) (h : ∀ i, 0 ≤ i → i < 74 → m' i = m i) : pk σ o hb m' p = pk σ o hb m p := by
  have n1 := hM.2.1.1
  have e1 : opn σ m' p = opn σ m p := by
    funext t
    unfold opn
    rw [hdm_cg (p := p) n1 (fun t t0 t1 => h _ (by omega) (by omega)), h (48 + p) (by omega) (by omega)]
  have e2 : mer σ o hb m' p = mer σ o hb m p := by
    funext t
    unfold mer
    rw [wjv_m (σ := σ) (o := o) (p := p) (h 72 (by decide) (by decide)) (h _ (by omega) (by omega)) (h _ (by omega) (by omega)), hdm_cg (p := p) n1 (fun t t0 t1 => h _ (by omega) (by omega)), h (48 + p) (by omega) (by omega)]
  unfold pk
  rw [e1, e2]
theorem hrm_cg {σ τ : Mem} (h : SmMk σ τ) (x s : Int) : hrm τ x s = hrm σ x s := by
  funext k
  unfold hrm
  rw [h.1.2.2.2.1, h.1.2.2.2.2.1, h.1.2.2.2.2.2.1]
theorem pk_cg {σ τ : Mem} {o : Option (List Cla)} {hb : Int} {m : Int → Int} {p : Int} (h : SmMk σ τ) : pk τ o hb m p = pk σ o hb m p := by
  have e1 : opn τ m p = opn σ m p := by funext t; unfold opn; rw [h.2.1]
  have e2 : mer τ o hb m p = mer σ o hb m p := by
    funext t
    unfold mer
    rw [wjv_cg h, h.2.1, h.2.2.2.1, hrm_cg h]
  unfold pk
  rw [e1, e2, h.2.1]
theorem pickC {σ : Mem} (hM : MarkI σ) {o : Option (List Cla)} (hH : Held σ o) {D : Int} (hD : D ≤ 4000) {m : Int → Int} (h : KM σ D (σ 40) m) (d : Nat) {p hb : Int} (hp : 0 ≤ p ∧ p < σ 64 38) (hhb : 0 ≤ hb ∧ hb ≤ 2) {Q : RV → Mem → Prop} (hQ : ∀ τ, Sm σ τ [28, 45, 46] [] → Q (rI (pk σ o hb m p)) τ) : Cl (d + 6) mF_pick [aR 11, aI p, aI hb] σ Q := by
  obtain ⟨hS, hW, h0, h2, hgc, hgm⟩ := h
  have n1 := hM.2.1.1
  have n2 := hM.2.1.2.1
  have m1 := hM.1.1
  have p2 := p2_le n1
  have had0 := hW.1 (48 + p) (by omega) (by omega)
  have had1 := hW.2.1 p hp.1 (by omega)
  have e3 : σ 40 (3 + p * 4 + 3) = m (48 + p) := Cor.eq hS (Cor.had (by omega))
  obtain ⟨h1, h8, h3⟩ := hdm_r (m := m) (p := p) n1
  refine bF_pick_in ⟨(by omega), (by omega), heldBy39 hM hS hW (Int.le_refl _) (d + 2) (p := p) (by omega) ?_⟩
  refine lookS39 hM hH hS hW rfl hD d hp (k := 0) (by decide) (j := 0) (by decide) (fun τ s tb => ?_)
  rw [e3]
  have sk : SmMk σ τ := SmMk.of s (by decide) (by decide)
  have hMt := hM.sm' s (by decide)
  have hQ' := hQ τ s
  unfold pk at hQ'
  rw [if_neg (show ¬ hb = 3 by omega)] at hQ'
  show Ev (d + 6) mF_pick 46 [vR 11, vI p, vI hb, vI (m (48 + p)), vI (dif (hdm m p (σ 64 37)) (m (48 + p))), vI (-1), vI 0, vI 0, vU] [] τ Q
  have hop := dif_lt (m := (σ 64 37).toNat) (s := hdm m p (σ 64 37)) (t := m (48 + p)) h1 ⟨by omega, by omega⟩ (by omega)
  have pr := pks_r (L := opn σ m p) (f := mer σ o hb m p) (fun t => mer_r hM o hb m p t)
  have key : ∀ u8, Ev (d + 6) mF_pick 46 [vR 11, vI p, vI hb, vI (m (48 + p)), vI (dif (hdm m p (σ 64 37)) (m (48 + p))), vI (pks (opn σ m p) (mer σ o hb m p) (0 : Int).toNat).1, vI (pks (opn σ m p) (mer σ o hb m p) (0 : Int).toNat).2, vI 0, u8] [] τ Q := by
    refine loop_up (G := fun t => ∀ u8, Ev (d + 6) mF_pick 46 [vR 11, vI p, vI hb, vI (m (48 + p)), vI (dif (hdm m p (σ 64 37)) (m (48 + p))), vI (pks (opn σ m p) (mer σ o hb m p) t.toNat).1, vI (pks (opn σ m p) (mer σ o hb m p) t.toNat).2, vI t, u8] [] τ Q) (hi := σ 64 37) _ 0 rfl n1.1 (fun t t0 t1 g => ?_) (fun u8 => ?_)
    · intro u8
      have e15 : τ 15 0 = σ 64 37 := by rw [s.1 15 rfl]; exact m1
      have sh := i_shr1 (s := dif (hdm m p (σ 64 37)) (m (48 + p))) (t := t) ⟨by omega, by omega⟩ ⟨by omega, by omega⟩
      have bd : bt (dif (hdm m p (σ 64 37)) (m (48 + p))) t = opn σ m p t := bt_dif ⟨by omega, by omega⟩ ⟨by omega, by omega⟩ ⟨by omega, by omega⟩
      rw [bd] at sh
      have S := pks_S (L := opn σ m p) (f := mer σ o hb m p) t0
      rw [S] at g
      have prt := pr t.toNat
      refine bF_pick_46 ⟨⟨by omega, by omega⟩, by rw [e15]; exact ⟨by omega, by omega⟩, fun z => absurd z (by rw [e15]; omega), fun _ => ⟨rg_and _ _, fun z => ?_, fun z => ?_⟩⟩
      · have l : opn σ m p t = true := by
          by_cases c : opn σ m p t = true
          · exact c
          · rw [if_neg c] at sh; exact absurd sh z
        have fin : ∀ w, w = mer σ o hb m p t → Ev (d + 6) mF_pick 113 [vR 11, vI p, vI hb, vI (m (48 + p)), vI (dif (hdm m p (σ 64 37)) (m (48 + p))), vI (pks (opn σ m p) (mer σ o hb m p) t.toNat).1, vI (pks (opn σ m p) (mer σ o hb m p) t.toNat).2, vI t, vI w] [] τ Q := by
          intro w hw
          subst hw
          have mr := mer_r hM o hb m p t
          refine bF_pick_113 ⟨by rcases prt.2 with e | e; (rw [e]; decide); exact ⟨by omega, by omega⟩, fun y => ?_, fun y => ⟨⟨by omega, by omega⟩, ⟨by omega, by omega⟩, fun y2 => ?_, fun y2 => ?_⟩⟩
          · rw [if_pos ⟨l, Or.inl y⟩] at g; exact g _
          · rw [if_neg (fun q => by rcases q.2 with e | e; exact y e; omega)] at g; exact g _
          · rw [if_pos ⟨l, Or.inr y2⟩] at g; exact g _
        refine ⟨⟨by omega, by omega⟩, fun y => ⟨fun y2 => fin 0 (by unfold mer; rw [if_neg y, if_neg y2]), fun y2 => ?_⟩, fun y => ?_⟩
        · refine harmC hMt (d + 4) ⟨by omega, by omega⟩ ⟨by omega, by omega⟩ (fin _ ?_)
          unfold mer
          rw [if_neg y, if_pos y2, hrm_cg sk, sk.2.2.2.1]
        · have bb := bcF_r (s := m (48 + p)) ⟨by omega, by omega⟩
          have bT := bcF_T n1 ⟨had0, had1⟩
          obtain ⟨b1, b2, b3, b4⟩ := hW.ltB n1 (by omega : D ≤ 5000) (p := p) (by omega)
          have t3 := tb (bcF (m (48 + p))) t (Int.le_refl _) (by omega) t0 t1
          rw [Int.add_zero, Int.add_zero, show min 99 (m (66 + p)) = m (66 + p) by omega] at t3
          have wr := wjv_r hM o m p (m (48 + p)) t
          have ej : jV (whF o (ltr (σ 82 t) (σ 83 t) (m 72) (m (66 + p)) (m (60 + p)) (if σ 84 p = t then 1 else 0) (bcF (m (48 + p))))) (spv τ (m (48 + p)) t) = wjv σ o m p (m (48 + p)) t := by
            unfold wjv
            rw [spv_cg (σ := σ) (by rw [s.1 64 rfl]) ⟨s.1 85 rfl, s.1 86 rfl, s.1 87 rfl⟩]
          refine delightC hMt (d + 2) (x := t) (s := m (48 + p)) ⟨by omega, by omega⟩ ⟨by omega, by omega⟩ t3 (whF_r _ _) ?_
          rw [ej]
          exact fin _ (by unfold mer; rw [if_pos y])
      · have l : ¬ opn σ m p t = true := fun c => by rw [if_pos c, z] at sh; cases sh
        rw [if_neg (fun q => l q.1)] at g
        exact g _
    · have e15 : τ 15 0 = σ 64 37 := by rw [s.1 15 rfl]; exact m1
      exact bF_pick_46 ⟨⟨by omega, by omega⟩, by rw [e15]; exact ⟨by omega, by omega⟩, fun _ => hQ', fun z => absurd z (by rw [e15]; omega)⟩
  exact key vU
theorem spoilsR {ω : Mem} (hM : MarkI ω) {D : Int} (hW : RowW (ω 64 37) (ω 64 38) D 47952 (ω 81)) (d : Nat) {p t : Int} (hp : 0 ≤ p ∧ p < ω 64 38) (ht : rg t) {Q : RV → Mem → Prop} (hQ : Q (rI (sumI (hrm ω t (dif (hdm (ω 81) p (ω 64 37)) (ω 81 (48 + p)))) (ω 64 39).toNat)) ω) : Cl (d + 3) mR_spoilsOf [aR 64, aI p, aI t] ω Q := by
  obtain ⟨-, ⟨n1, n2, n3, n4⟩, -, -, -, m5, -⟩ := hM
  have p2 := p2_le n1
  have had0 := hW.1 (48 + p) (by omega) (by omega)
  have had1 := hW.2.1 p hp.1 (by omega)
  obtain ⟨h1, h8, h3⟩ := hdm_r (m := ω 81) (p := p) n1
  refine bR_spoilsOf_in ?_
  have key : ∀ u5, Ev (d + 3) mR_spoilsOf 5 [vR 64, vI p, vI t, vI (sumI (hrm ω t (dif (hdm (ω 81) p (ω 64 37)) (ω 81 (48 + p)))) (0 : Int).toNat), vI 0, u5] [] ω Q := by
    refine loop_up (G := fun k => ∀ u5, Ev (d + 3) mR_spoilsOf 5 [vR 64, vI p, vI t, vI (sumI (hrm ω t (dif (hdm (ω 81) p (ω 64 37)) (ω 81 (48 + p)))) k.toNat), vI k, u5] [] ω Q) (hi := ω 64 39) _ 0 rfl n3.1 (fun k k0 k1 g => ?_) (fun u5 => ?_)
    · intro u5
      obtain ⟨-, k3, k4, k5, k7⟩ := m5 k k0 k1
      rw [sumI_S k0] at g
      have f48 := hW.f48 (Int.le_refl _) (i := 8 * p + ω 86 k) (by omega) (by omega)
      have bd : bt (dif (hdm (ω 81) p (ω 64 37)) (ω 81 (48 + p))) (ω 86 k) = (bt (hdm (ω 81) p (ω 64 37)) (ω 86 k) && !bt (ω 81 (48 + p)) (ω 86 k)) := bt_dif ⟨by omega, by omega⟩ ⟨by omega, by omega⟩ ⟨by omega, by omega⟩
      have hdr := h3 (ω 86 k) (by omega)
      have hbo := hb_bt (s := ω 81 (48 + p)) (t := ω 86 k) ⟨by omega, by omega⟩ ⟨by omega, by omega⟩
      have no : ¬ (ω 85 k = t ∧ bt (dif (hdm (ω 81) p (ω 64 37)) (ω 81 (48 + p))) (ω 86 k) = true) → ∀ u5 v, v = sumI (hrm ω t (dif (hdm (ω 81) p (ω 64 37)) (ω 81 (48 + p)))) k.toNat → Ev (d + 3) mR_spoilsOf 5 [vR 64, vI p, vI t, vI v, vI (k + 1), u5] [] ω Q := by
        intro z u5 v hv
        have e : hrm ω t (dif (hdm (ω 81) p (ω 64 37)) (ω 81 (48 + p))) k = 0 := by unfold hrm; rw [if_neg z]
        rw [e, Int.add_zero] at g
        rw [hv]; exact g u5
      refine bR_spoilsOf_5 ⟨⟨by omega, by omega⟩, ⟨by omega, by omega⟩, fun z => absurd z (by omega), fun _ => ⟨k0, (by omega), ⟨by omega, by omega⟩, ht, fun z => no (fun y => z y.1) _ _ (Int.add_zero _), fun z => ⟨hp.1, (by omega), fun y => no (fun q => ?_) _ _ (Int.add_zero _), fun y => ⟨(by omega), (by omega), ⟨by omega, by omega⟩, fun y2 => no (fun q => ?_) _ _ (Int.add_zero _), fun y2 => ?_⟩⟩⟩⟩
      · have q2 := q.2
        rw [bd, hbo.mp y, Bool.not_true, Bool.and_false] at q2; cases q2
      · have q2 := q.2
        rw [bd, Bool.and_eq_true] at q2
        have := (hdr.mp q2.1).2; omega
      · have nb : bt (ω 81 (48 + p)) (ω 86 k) = false := Bool.eq_false_iff.mpr (fun q => y (hbo.mpr q))
        have e : hrm ω t (dif (hdm (ω 81) p (ω 64 37)) (ω 81 (48 + p))) k = ω 87 k := by
          unfold hrm
          rw [if_pos ⟨z, by rw [bd, hdr.mpr ⟨by omega, y2⟩, nb]; rfl⟩]
        rw [e] at g
        exact g _
    · exact bR_spoilsOf_5 ⟨⟨by omega, by omega⟩, ⟨by omega, by omega⟩, fun _ => hQ, fun z => absurd z (by omega)⟩
  exact key vU
theorem chosenR {ω : Mem} (hM : MarkI ω) {o : Option (List Cla)} (hH : Held ω o) {D : Int} (hW : RowW (ω 64 37) (ω 64 38) D 47952 (ω 81)) (hD : D ≤ 4000) (d : Nat) {p hb : Int} (hp : 0 ≤ p ∧ p < ω 64 38) (hhb : 0 ≤ hb ∧ hb ≤ 2) {Q : RV → Mem → Prop} (hQ : ∀ τ, Sm ω τ [73, 74] [] → Q (rI (pk ω o hb (ω 81) p)) τ) : Cl (d + 8) mR_chosenBy [aR 64, aI p, aI hb] ω Q := by
  have n1 := hM.2.1.1
  have n2 := hM.2.1.2.1
  have p2 := p2_le n1
  have had0 := hW.1 (48 + p) (by omega) (by omega)
  have had1 := hW.2.1 p hp.1 (by omega)
  obtain ⟨h1, h8, h3⟩ := hdm_r (m := ω 81) (p := p) n1
  have pr := pks_r (L := opn ω (ω 81) p) (f := mer ω o hb (ω 81) p) (fun t => mer_r hM o hb (ω 81) p t)
  refine bR_chosenBy_in ?_
  have key : ∀ τ u6, Sm ω τ [73, 74] [] → Ev (d + 8) mR_chosenBy 8 [vR 64, vI p, vI hb, vI (pks (opn ω (ω 81) p) (mer ω o hb (ω 81) p) (0 : Int).toNat).1, vI (pks (opn ω (ω 81) p) (mer ω o hb (ω 81) p) (0 : Int).toNat).2, vI 0, u6] [] τ Q := by
    refine loop_up (G := fun t => ∀ τ u6, Sm ω τ [73, 74] [] → Ev (d + 8) mR_chosenBy 8 [vR 64, vI p, vI hb, vI (pks (opn ω (ω 81) p) (mer ω o hb (ω 81) p) t.toNat).1, vI (pks (opn ω (ω 81) p) (mer ω o hb (ω 81) p) t.toNat).2, vI t, u6] [] τ Q) (hi := ω 64 37) _ 0 rfl n1.1 (fun t t0 t1 g => ?_) ?_
    · intro τ u6 s
      have e64 : τ 64 = ω 64 := s.1 64 rfl
      have e81 : τ 81 = ω 81 := s.1 81 rfl
      have hMt := hM.sm' s (by decide)
      have sk : SmMk ω τ := SmMk.of s (by decide) (by decide)
      have S := pks_S (L := opn ω (ω 81) p) (f := mer ω o hb (ω 81) p) t0
      rw [S] at g
      have prt := pr t.toNat
      have f48 := hW.f48 (Int.le_refl _) (i := 8 * p + t) (by omega) (by omega)
      have hdr := h3 t t0
      have hbo := hb_bt (s := ω 81 (48 + p)) (t := t) ⟨by omega, by omega⟩ ⟨by omega, by omega⟩
      have no : ¬ opn ω (ω 81) p t = true → ∀ u6, Ev (d + 8) mR_chosenBy 8 [vR 64, vI p, vI hb, vI (pks (opn ω (ω 81) p) (mer ω o hb (ω 81) p) t.toNat).1, vI (pks (opn ω (ω 81) p) (mer ω o hb (ω 81) p) t.toNat).2, vI (t + 1), u6] [] τ Q := by
        intro z u6
        rw [if_neg (fun q => z q.1)] at g
        exact g τ u6 s
      refine bR_chosenBy_8 ⟨⟨by omega, by omega⟩, by rw [e64]; exact ⟨by omega, by omega⟩, fun z => absurd z (by rw [e64]; omega), fun _ => ⟨(by omega), (by omega), by rw [e81]; exact ⟨by omega, by omega⟩, fun z => no (fun q => ?_) _, fun z => ⟨hp.1, (by omega), fun y => no (fun q => ?_) _, fun y => ?_⟩⟩⟩
      · rw [e81] at z
        unfold opn at q
        rw [Bool.and_eq_true] at q
        have := (hdr.mp q.1).2; omega
      · rw [e81] at y
        unfold opn at q
        rw [hbo.mp y, Bool.not_true, Bool.and_false] at q; cases q
      · rw [e81] at y z
        have nb : bt (ω 81 (48 + p)) t = false := Bool.eq_false_iff.mpr (fun q => y (hbo.mpr q))
        have l : opn ω (ω 81) p t = true := by unfold opn; rw [hdr.mpr ⟨t1, z⟩, nb]; rfl
        have mr := mer_r hM o hb (ω 81) p t
        have fin : ∀ w τ', Sm ω τ' [73, 74] [] → w = mer ω o hb (ω 81) p t → Ev (d + 8) mR_chosenBy 68 [vR 64, vI p, vI hb, vI (pks (opn ω (ω 81) p) (mer ω o hb (ω 81) p) t.toNat).1, vI (pks (opn ω (ω 81) p) (mer ω o hb (ω 81) p) t.toNat).2, vI t, u6] [aI w] τ' Q := by
          intro w τ' s' hw
          subst hw
          refine bR_chosenBy_68 ⟨by rcases prt.2 with e | e; (rw [e]; decide); exact ⟨by omega, by omega⟩, fun y => ?_, fun y => ⟨⟨by omega, by omega⟩, ⟨by omega, by omega⟩, fun y2 => ?_, fun y2 => ?_⟩⟩
          · rw [if_pos ⟨l, Or.inl y⟩] at g; exact g _ _ s'
          · rw [if_neg (fun q => by rcases q.2 with e | e; exact y e; omega)] at g; exact g _ _ s'
          · rw [if_pos ⟨l, Or.inr y2⟩] at g; exact g _ _ s'
        refine ⟨⟨by omega, by omega⟩, fun y => ⟨fun y2 => ?_, fun y2 => ?_⟩, fun y => fin 0 τ s (by unfold mer; rw [if_neg (by omega), if_neg (by omega)])⟩
        · refine spoilsR hMt (D := D) (by rw [e64, e81]; exact hW) (d + 4) (p := p) (t := t) (by rw [e64]; exact hp) ⟨by omega, by omega⟩ (fin _ τ s ?_)
          unfold mer
          rw [if_neg y2, if_pos (show hb = 2 by omega), hrm_cg sk, e64, e81]
        · obtain ⟨b1, b2, b3, b4⟩ := hW.ltB n1 (by omega : D ≤ 5000) (p := p) (by omega)
          have wr := wjv_r hM o (ω 81) p (ω 81 (48 + p)) t
          have ej : joyM τ o (τ 81) p t = wjv ω o (ω 81) p (ω 81 (48 + p)) t := by
            rw [e81]
            exact joyM_cg (by rw [e64]) ⟨s.1 82 rfl, s.1 83 rfl, s.1 84 rfl, s.1 85 rfl, s.1 86 rfl, s.1 87 rfl⟩
          refine joyR hMt (hH.sm s (by decide) rfl) d (p := p) (x := t) (by rw [e64]; exact hp) (by rw [e64]; exact ⟨by omega, by omega⟩) (by rw [e81]; exact b2) (by rw [e81]; exact b1) (fun τ' s' => ?_)
          rw [ej]
          exact fin _ τ' (s.trans s') (by unfold mer; rw [if_pos y2])
    · intro τ u6 s
      have e64 : τ 64 = ω 64 := s.1 64 rfl
      have hQ' := hQ τ s
      unfold pk at hQ'
      rw [if_neg (show ¬ hb = 3 by omega)] at hQ'
      exact bR_chosenBy_8 ⟨⟨by omega, by omega⟩, by rw [e64]; exact ⟨by omega, by omega⟩, fun _ => hQ', fun z => absurd z (by rw [e64]; omega)⟩
  exact key ω vU Sm.refl
