/-! ===== CASES could, alone ===== -/
/-- the least day of so many claims, early (e = 1) or late; -1: none -/
def fbA (σ : Mem) (p x e : Int) : Nat → Int
  | 0 => -1
  | n + 1 => if σ 95 (Int.ofNat n) = p ∧ σ 96 (Int.ofNat n) = x then (if fbA σ p x e n = -1 then (if e = 0 then σ 98 (Int.ofNat n) else σ 97 (Int.ofNat n)) else min (fbA σ p x e n) (if e = 0 then σ 98 (Int.ofNat n) else σ 97 (Int.ofNat n))) else fbA σ p x e n
theorem fbA_S {σ : Mem} {p x e i : Int} (h : 0 ≤ i) : fbA σ p x e (i + 1).toNat = if σ 95 i = p ∧ σ 96 i = x then (if fbA σ p x e i.toNat = -1 then (if e = 0 then σ 98 i else σ 97 i) else min (fbA σ p x e i.toNat) (if e = 0 then σ 98 i else σ 97 i)) else fbA σ p x e i.toNat := by
  rw [show (i + 1).toNat = i.toNat + 1 by omega]
  show (if σ 95 (Int.ofNat i.toNat) = p ∧ σ 96 (Int.ofNat i.toNat) = x then (if fbA σ p x e i.toNat = -1 then (if e = 0 then σ 98 (Int.ofNat i.toNat) else σ 97 (Int.ofNat i.toNat)) else min (fbA σ p x e i.toNat) (if e = 0 then σ 98 (Int.ofNat i.toNat) else σ 97 (Int.ofNat i.toNat))) else fbA σ p x e i.toNat) = _
  rw [show Int.ofNat i.toNat = i from Int.toNat_of_nonneg h]
theorem fbA_r {σ : Mem} (hE : EvidI σ) {p x e : Int} : ∀ n : Nat, (n : Int) ≤ σ 64 60 → -1 ≤ fbA σ p x e n ∧ fbA σ p x e n ≤ 108
  | 0, _ => by show (-1 : Int) ≤ -1 ∧ (-1 : Int) ≤ 108; decide
  | n + 1, h => by
    have ih := fbA_r hE (p := p) (x := x) (e := e) n (by omega)
    have h2 := hE.2.2.2 (Int.ofNat n) (Int.ofNat_nonneg n) (by show (n : Int) < _; omega)
    unfold fbA
    split
    · split
      · split <;> omega
      · split <;> omega
    · exact ih
/-- early is no later than late; both or none -/
theorem fbA_el {σ : Mem} (hE : EvidI σ) {p x : Int} : ∀ n : Nat, (n : Int) ≤ σ 64 60 → (fbA σ p x 1 n = -1 ↔ fbA σ p x 0 n = -1) ∧ fbA σ p x 1 n ≤ fbA σ p x 0 n
  | 0, _ => ⟨Iff.rfl, Int.le_refl _⟩
  | n + 1, h => by
    have ih := fbA_el hE (p := p) (x := x) n (by omega)
    have r0 := fbA_r hE (p := p) (x := x) (e := 0) n (by omega)
    have r1 := fbA_r hE (p := p) (x := x) (e := 1) n (by omega)
    have h2 := hE.2.2.2 (Int.ofNat n) (Int.ofNat_nonneg n) (by show (n : Int) < _; omega)
    have u1 : fbA σ p x 1 (n + 1) = if σ 95 (Int.ofNat n) = p ∧ σ 96 (Int.ofNat n) = x then (if fbA σ p x 1 n = -1 then σ 97 (Int.ofNat n) else min (fbA σ p x 1 n) (σ 97 (Int.ofNat n))) else fbA σ p x 1 n := rfl
    have u0 : fbA σ p x 0 (n + 1) = if σ 95 (Int.ofNat n) = p ∧ σ 96 (Int.ofNat n) = x then (if fbA σ p x 0 n = -1 then σ 98 (Int.ofNat n) else min (fbA σ p x 0 n) (σ 98 (Int.ofNat n))) else fbA σ p x 0 n := rfl
    rw [u1, u0]
    by_cases c : σ 95 (Int.ofNat n) = p ∧ σ 96 (Int.ofNat n) = x
    · rw [if_pos c, if_pos c]
      by_cases c1 : fbA σ p x 1 n = -1
      · rw [if_pos c1, if_pos (ih.1.mp c1)]; omega
      · rw [if_neg c1, if_neg (fun z => c1 (ih.1.mpr z))]; omega
    · rw [if_neg c, if_neg c]; exact ih
/-- nobody claims it that isn't there -/
theorem fbA_no {σ : Mem} (hE : EvidI σ) {p x e : Int} (hp : σ 64 38 ≤ p) : ∀ n : Nat, (n : Int) ≤ σ 64 60 → fbA σ p x e n = -1
  | 0, _ => rfl
  | n + 1, h => by
    have h2 := hE.2.2.2 (Int.ofNat n) (Int.ofNat_nonneg n) (by show (n : Int) < _; omega)
    unfold fbA
    rw [if_neg (by omega)]; exact fbA_no hE hp n (by omega)
def eaV (σ : Mem) (p x : Int) : Int := fbA σ p x 1 (σ 64 60).toNat
def laV (σ : Mem) (p x : Int) : Int := fbA σ p x 0 (σ 64 60).toNat
def nv (a : Int) : Int := if a = -1 then 1000000 else a
def cldP (σ : Mem) (p x : Int) : Prop := eaV σ p x ≠ -1 ∧ ∀ q, 0 ≤ q → q < σ 64 38 → q ≠ p → laV σ q x = -1 ∨ eaV σ p x ≤ laV σ q x
def sreP (σ : Mem) (p x : Int) : Prop := laV σ p x ≠ -1 ∧ ∀ q, 0 ≤ q → q < σ 64 38 → q ≠ p → eaV σ q x = -1 ∨ laV σ p x < eaV σ q x
theorem firstByR {σ : Mem} (hM : MarkI σ) (hE : EvidI σ) (d : Nat) {p x e : Int} (hp : rg p) (hx : rg x) (he : rg e) {Q : RV → Mem → Prop} (h : Q (rI (fbA σ p x e (σ 64 60).toNat)) σ) : Cl (d + 2) mR_firstBy [aR 64, aI p, aI x, aI e] σ Q := by
  have hE' := hE
  have n1 := hM.2.1.1; have n2 := hM.2.1.2.1
  obtain ⟨-, ⟨v1, v2, v3⟩, -, v8⟩ := hE
  refine bR_firstBy_in ?_
  have key : ∀ u6, Ev (d + 2) mR_firstBy 6 [vR 64, vI p, vI x, vI e, vI (fbA σ p x e (0 : Int).toNat), vI 0, u6] [] σ Q := by
    refine loop_up (G := fun i => ∀ u6, Ev (d + 2) mR_firstBy 6 [vR 64, vI p, vI x, vI e, vI (fbA σ p x e i.toNat), vI i, u6] [] σ Q) (hi := σ 64 60) _ 0 rfl v2 (fun j j0 j1 g => ?_) ?_
    · intro u6
      have r := fbA_r hE' (p := p) (x := x) (e := e) j.toNat (by omega)
      have w := v8 j j0 j1
      rw [fbA_S j0] at g
      refine bR_firstBy_6 ⟨⟨by omega, by omega⟩, ⟨by omega, by omega⟩, fun q => absurd q (by omega), fun _ => ⟨(by omega), (by omega), ⟨by omega, by omega⟩, hp, fun q => ?_, fun q => ⟨⟨by omega, by omega⟩, hx, fun q2 => ?_, fun q2 => ⟨he, fun q3 => ?_, fun q3 => ?_⟩⟩⟩⟩
      · have g1 := g u6
        rw [if_neg (fun z => q z.1)] at g1; exact g1
      · have g1 := g u6
        rw [if_neg (fun z => q2 z.2)] at g1; exact g1
      · have g1 := g (vI (σ 98 j))
        rw [if_pos ⟨q, q2⟩] at g1
        refine bR_firstBy_58 ⟨⟨by omega, by omega⟩, fun y => ⟨⟨by omega, by omega⟩, ?_⟩, fun y => ?_⟩
        · rw [if_neg y, if_pos q3] at g1; exact g1
        · rw [if_pos y, if_pos q3] at g1; exact g1
      · have g1 := g (vI (σ 97 j))
        rw [if_pos ⟨q, q2⟩] at g1
        refine bR_firstBy_58 ⟨⟨by omega, by omega⟩, fun y => ⟨⟨by omega, by omega⟩, ?_⟩, fun y => ?_⟩
        · rw [if_neg y, if_neg q3] at g1; exact g1
        · rw [if_pos y, if_neg q3] at g1; exact g1
    · intro u6
      exact bR_firstBy_6 ⟨⟨by omega, by omega⟩, ⟨by omega, by omega⟩, fun _ => h, fun q => absurd q (by omega)⟩
  exact key vU
/-- isFirst, not surely -/
theorem isFirstR0 {σ : Mem} (hI : Inv σ) (d : Nat) {p x : Int} (hp : rg p) (hx : rg x) {Q : RV → Mem → Prop} (h1 : cldP σ p x → Q (rI 1) σ) (h0 : ¬ cldP σ p x → Q (rI 0) σ) : Cl (d + 3) mR_isFirst [aR 64, aI p, aI x, aI 0] σ Q := by
  have hE := hI.2.1.2.2.1
  have n2 := hI.1.2.1.2.1.2.1
  have cN : ((σ 64 60).toNat : Int) ≤ σ 64 60 := by have := hE.2.1; omega
  have r1 := fbA_r hE (p := p) (x := x) (e := 1) (σ 64 60).toNat cN
  refine bR_isFirst_in ⟨by decide, fun q => absurd rfl q, fun _ => bR_isFirst_12 (firstByR hI.1.2.1 hE d hp hx (by decide) ⟨⟨by omega, by omega⟩, fun q => ?_, fun q => ?_⟩)⟩
  · -- claims nothing
    have hn : ¬ cldP σ p x := fun z => z.1 q
    have key : ∀ u7, Ev (d + 3) mR_isFirst 33 [vR 64, vI p, vI x, vI 0, vI (fbA σ p x 1 (σ 64 60).toNat), vI 0, vI 0, u7] [] σ Q := by
      refine loop_up (G := fun i => ∀ u7, Ev (d + 3) mR_isFirst 33 [vR 64, vI p, vI x, vI 0, vI (fbA σ p x 1 (σ 64 60).toNat), vI 0, vI i, u7] [] σ Q) (hi := σ 64 38) _ 0 rfl n2.1 (fun j j0 j1 g => ?_) ?_
      · intro u7
        refine bR_isFirst_33 ⟨⟨by omega, by omega⟩, ⟨by omega, by omega⟩, fun z => absurd z (by omega), fun _ => ⟨hp, fun _ => firstByR hI.1.2.1 hE d ⟨by omega, by omega⟩ hx (by decide) (bR_isFirst_60 ⟨by decide, fun _ => g _, fun z => absurd rfl z⟩), fun _ => bR_isFirst_60 ⟨by decide, fun _ => g _, fun z => absurd rfl z⟩⟩⟩
      · intro u7
        exact bR_isFirst_33 ⟨⟨by omega, by omega⟩, ⟨by omega, by omega⟩, fun _ => ⟨Or.inl rfl, h0 hn⟩, fun z => absurd z (by omega)⟩
    exact key _
  · have key : ∀ (b : Int) (u7 : Option AV), (b = 0 ∧ ¬ cldP σ p x ∨ b = 1 ∧ (∀ q, 0 ≤ q → q < 0 → q ≠ p → laV σ q x = -1 ∨ eaV σ p x ≤ laV σ q x)) → Ev (d + 3) mR_isFirst 33 [vR 64, vI p, vI x, vI 0, vI (fbA σ p x 1 (σ 64 60).toNat), vI b, vI 0, u7] [] σ Q := by
      refine loop_up (G := fun i => ∀ (b : Int) (u7 : Option AV), (b = 0 ∧ ¬ cldP σ p x ∨ b = 1 ∧ (∀ q, 0 ≤ q → q < i → q ≠ p → laV σ q x = -1 ∨ eaV σ p x ≤ laV σ q x)) → Ev (d + 3) mR_isFirst 33 [vR 64, vI p, vI x, vI 0, vI (fbA σ p x 1 (σ 64 60).toNat), vI b, vI i, u7] [] σ Q) (hi := σ 64 38) _ 0 rfl n2.1 (fun j j0 j1 g => ?_) ?_
      · intro b u7 hb
        have r0 := fbA_r hE (p := j) (x := x) (e := 0) (σ 64 60).toNat cN
        rcases hb with ⟨rfl, hn⟩ | ⟨rfl, hy⟩
        · refine bR_isFirst_33 ⟨⟨by omega, by omega⟩, ⟨by omega, by omega⟩, fun z => absurd z (by omega), fun _ => ⟨hp, fun _ => firstByR hI.1.2.1 hE d ⟨by omega, by omega⟩ hx (by decide) (bR_isFirst_60 ⟨by decide, fun _ => g 0 _ (Or.inl ⟨rfl, hn⟩), fun z => absurd rfl z⟩), fun _ => bR_isFirst_60 ⟨by decide, fun _ => g 0 _ (Or.inl ⟨rfl, hn⟩), fun z => absurd rfl z⟩⟩⟩
        · refine bR_isFirst_33 ⟨⟨by omega, by omega⟩, ⟨by omega, by omega⟩, fun z => absurd z (by omega), fun _ => ⟨hp, fun hne => firstByR hI.1.2.1 hE d ⟨by omega, by omega⟩ hx (by decide) (bR_isFirst_60 ⟨by decide, fun z => absurd z (by decide), fun _ => ⟨⟨by omega, by omega⟩, fun z => g 1 _ (Or.inr ⟨rfl, fun y y0 y1 y2 => ?_⟩), fun z => ⟨by decide, fun _ => ⟨⟨by omega, by omega⟩, fun w => g 0 _ (Or.inl ⟨rfl, fun c => ?_⟩), fun w => g 1 _ (Or.inr ⟨rfl, fun y y0 y1 y2 => ?_⟩)⟩, fun w => absurd rfl w⟩⟩⟩), fun he => bR_isFirst_60 ⟨by decide, fun z => absurd z (by decide), fun _ => ⟨by decide, fun _ => g 1 _ (Or.inr ⟨rfl, fun y y0 y1 y2 => ?_⟩), fun w => absurd rfl w⟩⟩⟩⟩
          · by_cases e : y = j
            · subst e; exact Or.inl z
            · exact hy y y0 (by omega) y2
          · have := c.2 j j0 j1 hne
            unfold eaV laV at this
            omega
          · by_cases e : y = j
            · subst e; exact Or.inr w
            · exact hy y y0 (by omega) y2
          · exact hy y y0 (by omega) y2
      · intro b u7 hb
        rcases hb with ⟨rfl, hn⟩ | ⟨rfl, hy⟩
        · exact bR_isFirst_33 ⟨⟨by omega, by omega⟩, ⟨by omega, by omega⟩, fun _ => ⟨Or.inl rfl, h0 hn⟩, fun z => absurd z (by omega)⟩
        · exact bR_isFirst_33 ⟨⟨by omega, by omega⟩, ⟨by omega, by omega⟩, fun _ => ⟨Or.inr rfl, h1 ⟨q, hy⟩⟩, fun z => absurd z (by omega)⟩
    exact key 1 _ (Or.inr ⟨rfl, fun y y0 y1 => absurd y1 (by omega)⟩)
/-- isFirst, surely -/
theorem isFirstR1 {σ : Mem} (hI : Inv σ) (d : Nat) {p x : Int} (hp : rg p) (hx : rg x) {Q : RV → Mem → Prop} (h1 : sreP σ p x → Q (rI 1) σ) (h0 : ¬ sreP σ p x → Q (rI 0) σ) : Cl (d + 3) mR_isFirst [aR 64, aI p, aI x, aI 1] σ Q := by
  have hE := hI.2.1.2.2.1
  have n2 := hI.1.2.1.2.1.2.1
  have cN : ((σ 64 60).toNat : Int) ≤ σ 64 60 := by have := hE.2.1; omega
  have r1 := fbA_r hE (p := p) (x := x) (e := 0) (σ 64 60).toNat cN
  refine bR_isFirst_in ⟨by decide, fun _ => bR_isFirst_12 (firstByR hI.1.2.1 hE d hp hx (by decide) ⟨⟨by omega, by omega⟩, fun q => ?_, fun q => ?_⟩), fun q => absurd q (by decide)⟩
  · have hn : ¬ sreP σ p x := fun z => z.1 q
    have key : ∀ u7, Ev (d + 3) mR_isFirst 33 [vR 64, vI p, vI x, vI 1, vI (fbA σ p x 0 (σ 64 60).toNat), vI 0, vI 0, u7] [] σ Q := by
      refine loop_up (G := fun i => ∀ u7, Ev (d + 3) mR_isFirst 33 [vR 64, vI p, vI x, vI 1, vI (fbA σ p x 0 (σ 64 60).toNat), vI 0, vI i, u7] [] σ Q) (hi := σ 64 38) _ 0 rfl n2.1 (fun j j0 j1 g => ?_) ?_
      · intro u7
        refine bR_isFirst_33 ⟨⟨by omega, by omega⟩, ⟨by omega, by omega⟩, fun z => absurd z (by omega), fun _ => ⟨hp, fun _ => firstByR hI.1.2.1 hE d ⟨by omega, by omega⟩ hx (by decide) (bR_isFirst_60 ⟨by decide, fun _ => g _, fun z => absurd rfl z⟩), fun _ => bR_isFirst_60 ⟨by decide, fun _ => g _, fun z => absurd rfl z⟩⟩⟩
      · intro u7
        exact bR_isFirst_33 ⟨⟨by omega, by omega⟩, ⟨by omega, by omega⟩, fun _ => ⟨Or.inl rfl, h0 hn⟩, fun z => absurd z (by omega)⟩
    exact key _
  · have key : ∀ (b : Int) (u7 : Option AV), (b = 0 ∧ ¬ sreP σ p x ∨ b = 1 ∧ (∀ q, 0 ≤ q → q < 0 → q ≠ p → eaV σ q x = -1 ∨ laV σ p x < eaV σ q x)) → Ev (d + 3) mR_isFirst 33 [vR 64, vI p, vI x, vI 1, vI (fbA σ p x 0 (σ 64 60).toNat), vI b, vI 0, u7] [] σ Q := by
      refine loop_up (G := fun i => ∀ (b : Int) (u7 : Option AV), (b = 0 ∧ ¬ sreP σ p x ∨ b = 1 ∧ (∀ q, 0 ≤ q → q < i → q ≠ p → eaV σ q x = -1 ∨ laV σ p x < eaV σ q x)) → Ev (d + 3) mR_isFirst 33 [vR 64, vI p, vI x, vI 1, vI (fbA σ p x 0 (σ 64 60).toNat), vI b, vI i, u7] [] σ Q) (hi := σ 64 38) _ 0 rfl n2.1 (fun j j0 j1 g => ?_) ?_
      · intro b u7 hb
        have r0 := fbA_r hE (p := j) (x := x) (e := 1) (σ 64 60).toNat cN
        rcases hb with ⟨rfl, hn⟩ | ⟨rfl, hy⟩
        · refine bR_isFirst_33 ⟨⟨by omega, by omega⟩, ⟨by omega, by omega⟩, fun z => absurd z (by omega), fun _ => ⟨hp, fun _ => firstByR hI.1.2.1 hE d ⟨by omega, by omega⟩ hx (by decide) (bR_isFirst_60 ⟨by decide, fun _ => g 0 _ (Or.inl ⟨rfl, hn⟩), fun z => absurd rfl z⟩), fun _ => bR_isFirst_60 ⟨by decide, fun _ => g 0 _ (Or.inl ⟨rfl, hn⟩), fun z => absurd rfl z⟩⟩⟩
        · refine bR_isFirst_33 ⟨⟨by omega, by omega⟩, ⟨by omega, by omega⟩, fun z => absurd z (by omega), fun _ => ⟨hp, fun hne => firstByR hI.1.2.1 hE d ⟨by omega, by omega⟩ hx (by decide) (bR_isFirst_60 ⟨by decide, fun z => absurd z (by decide), fun _ => ⟨⟨by omega, by omega⟩, fun z => g 1 _ (Or.inr ⟨rfl, fun y y0 y1 y2 => ?_⟩), fun z => ⟨by decide, fun w => absurd w (by decide), fun _ => ⟨⟨by omega, by omega⟩, fun w => g 0 _ (Or.inl ⟨rfl, fun c => ?_⟩), fun w => g 1 _ (Or.inr ⟨rfl, fun y y0 y1 y2 => ?_⟩)⟩⟩⟩⟩), fun he => bR_isFirst_60 ⟨by decide, fun z => absurd z (by decide), fun _ => ⟨by decide, fun _ => g 1 _ (Or.inr ⟨rfl, fun y y0 y1 y2 => ?_⟩), fun w => absurd rfl w⟩⟩⟩⟩
          · by_cases e : y = j
            · subst e; exact Or.inl z
            · exact hy y y0 (by omega) y2
          · have := c.2 j j0 j1 hne
            unfold eaV laV at this
            omega
          · by_cases e : y = j
            · subst e; exact Or.inr w
            · exact hy y y0 (by omega) y2
          · exact hy y y0 (by omega) y2
      · intro b u7 hb
        rcases hb with ⟨rfl, hn⟩ | ⟨rfl, hy⟩
        · exact bR_isFirst_33 ⟨⟨by omega, by omega⟩, ⟨by omega, by omega⟩, fun _ => ⟨Or.inl rfl, h0 hn⟩, fun z => absurd z (by omega)⟩
        · exact bR_isFirst_33 ⟨⟨by omega, by omega⟩, ⟨by omega, by omega⟩, fun _ => ⟨Or.inr rfl, h1 ⟨q, hy⟩⟩, fun z => absurd z (by omega)⟩
    exact key 1 _ (Or.inr ⟨rfl, fun y y0 y1 => absurd y1 (by omega)⟩)
/-- the class has weighed the claims of x -/
def Weighed (σ τ : Mem) (x : Int) (n : Nat) : Prop := Sm σ τ [62, 63] [] ∧ ∀ p, 0 ≤ p → p < 6 → τ 62 p = nv (fbA σ p x 1 n) ∧ τ 63 p = nv (fbA σ p x 0 n)
theorem fill62 {d : Nat} {σ : Mem} {v : Int} {Q : RV → Mem → Prop} (h : Q rV (su σ 62 (cpn (fun _ => v) (σ 62) 0 6))) : Cl (d + 1) mJ_fill [aR 62, aI v] σ Q := by
  refine bJ_fill_r62_in ?_
  refine loop_cp (σ := σ) (a := 62) (f := fun _ => v) (o := 0) (n := 6) (E := fun i υ => Ev (d + 1) mJ_fill 5 [vR 62, vI v, vI i, vI 6] [] υ Q) (by decide) (fun i i0 i1 g => ?_) ?_
  · rw [show (0 : Int) + i = i by omega] at g
    exact bJ_fill_r62_5 ⟨⟨by omega, by omega⟩, by decide, fun q => absurd q (by omega), fun _ => ⟨(by omega), (by omega), g⟩⟩
  · exact bJ_fill_r62_5 ⟨by decide, by decide, fun _ => h, fun q => absurd q (by decide)⟩
theorem fill63 {d : Nat} {σ : Mem} {v : Int} {Q : RV → Mem → Prop} (h : Q rV (su σ 63 (cpn (fun _ => v) (σ 63) 0 6))) : Cl (d + 1) mJ_fill [aR 63, aI v] σ Q := by
  refine bJ_fill_r63_in ?_
  refine loop_cp (σ := σ) (a := 63) (f := fun _ => v) (o := 0) (n := 6) (E := fun i υ => Ev (d + 1) mJ_fill 5 [vR 63, vI v, vI i, vI 6] [] υ Q) (by decide) (fun i i0 i1 g => ?_) ?_
  · rw [show (0 : Int) + i = i by omega] at g
    exact bJ_fill_r63_5 ⟨⟨by omega, by omega⟩, by decide, fun q => absurd q (by omega), fun _ => ⟨(by omega), (by omega), g⟩⟩
  · exact bJ_fill_r63_5 ⟨by decide, by decide, fun _ => h, fun q => absurd q (by decide)⟩
theorem weighC {σ : Mem} (hI : Inv σ) (d : Nat) {x : Int} (hx : rg x) {Q : RV → Mem → Prop} (h : ∀ τ, Weighed σ τ x (σ 64 60).toNat → Q rV τ) : Cl (d + 2) mEd_weigh [aR 55, aI x] σ Q := by
  have hE := hI.2.1.2.2.1
  have hn2 := hI.1.2.1.2.1.2.1; have hn1 := hI.1.2.1.2.1.1
  obtain ⟨-, ⟨v1, v2, v3⟩, -, v8⟩ := id hE
  refine bEd_weigh_in (fill62 (fill63 ?_))
  have w0 : Weighed σ (su (su σ 62 (cpn (fun _ => 1000000) (σ 62) 0 6)) 63 (cpn (fun _ => 1000000) ((su σ 62 (cpn (fun _ => 1000000) (σ 62) 0 6)) 63) 0 6)) x (0 : Int).toNat := by
    refine ⟨(Sm.refl.su rfl (by decide)).su rfl (by decide), fun p p0 p1 => ⟨?_, ?_⟩⟩
    · rw [su_ne (by decide), su_eq, cpn_at p0 p1]; rfl
    · rw [su_eq, cpn_at p0 p1]; rfl
  refine loop_up (G := fun i => ∀ τ u3, Weighed σ τ x i.toNat → Ev (d + 2) mEd_weigh 20 [vR 55, vI x, vI i, u3] [] τ Q) (hi := σ 64 60) _ 0 rfl v2 (fun j j0 j1 g => ?_) ?_ _ _ w0
  · intro τ u3 hw
    obtain ⟨⟨k1, k2, k3, k4⟩, k5, k6, k7⟩ := v8 j j0 j1
    have q58 := hw.1.1 58 rfl
    have q59 := hw.1.1 59 rfl
    have q60 := hw.1.1 60 rfl
    have q61 := hw.1.1 61 rfl
    refine bEd_weigh_20 ⟨⟨by omega, by omega⟩, by rw [hw.1.1 55 rfl]; exact ⟨by omega, by omega⟩, fun q => absurd q (by rw [hw.1.1 55 rfl]; omega), fun _ => ⟨(by omega), (by omega), by rw [q59]; exact ⟨by omega, by omega⟩, hx, fun q => g τ u3 ⟨hw.1, fun p p0 p1 => ?_⟩, fun q => ?_⟩⟩
    · rw [q59, k2] at q
      rw [fbA_S j0, fbA_S j0, if_neg (fun z => q z.2), if_neg (fun z => q z.2)]; exact hw.2 p p0 p1
    · rw [q59, k2] at q
      rw [q58, q60, q61, k1, k3, k4]
      obtain ⟨y1, y2⟩ := hw.2 (σ 95 j) (by omega) (by omega)
      have r1 := fbA_r hE (p := σ 95 j) (x := x) (e := 1) j.toNat (by omega)
      have r0 := fbA_r hE (p := σ 95 j) (x := x) (e := 0) j.toNat (by omega)
      have z1 : -1 ≤ τ 62 (σ 95 j) ∧ τ 62 (σ 95 j) ≤ 1000000 := by rw [y1]; unfold nv; split <;> omega
      have z2 : -1 ≤ τ 63 (σ 95 j) ∧ τ 63 (σ 95 j) ≤ 1000000 := by rw [y2]; unfold nv; split <;> omega
      refine ⟨(by omega), (by omega), ⟨by omega, by omega⟩, ⟨by omega, by omega⟩, ⟨by omega, by omega⟩, ⟨by omega, by omega⟩, g _ _ ⟨(hw.1.ups rfl (Or.inl (by decide))).ups rfl (Or.inl (by decide)), fun p p0 p1 => ?_⟩⟩
      by_cases e : p = σ 95 j
      · subst e
        have s1 := fbA_S (σ := σ) (p := σ 95 j) (x := x) (e := 1) j0
        have s0 := fbA_S (σ := σ) (p := σ 95 j) (x := x) (e := 0) j0
        rw [if_pos (⟨rfl, q⟩ : σ 95 j = σ 95 j ∧ σ 96 j = x), if_neg (by decide : ¬ (1 : Int) = 0)] at s1
        rw [if_pos (⟨rfl, q⟩ : σ 95 j = σ 95 j ∧ σ 96 j = x), if_pos (rfl : (0 : Int) = 0)] at s0
        rw [s1, s0, ups_hit, ups_ne (by decide), ups_hit, y1, y2]
        constructor
        · by_cases c : fbA σ (σ 95 j) x 1 j.toNat = -1
          · rw [if_pos c, c]; unfold nv; rw [if_pos rfl, if_neg (show ¬ σ 97 j = -1 by omega)]; omega
          · rw [if_neg c]; unfold nv; rw [if_neg c, if_neg (show ¬ min (fbA σ (σ 95 j) x 1 j.toNat) (σ 97 j) = -1 by omega)]
        · by_cases c : fbA σ (σ 95 j) x 0 j.toNat = -1
          · rw [if_pos c, c]; unfold nv; rw [if_pos rfl, if_neg (show ¬ σ 98 j = -1 by omega)]; omega
          · rw [if_neg c]; unfold nv; rw [if_neg c, if_neg (show ¬ min (fbA σ (σ 95 j) x 0 j.toNat) (σ 98 j) = -1 by omega)]
      · rw [fbA_S j0, fbA_S j0, if_neg (fun z => e z.1.symm), if_neg (fun z => e z.1.symm), ups_fn e, ups_ne (by decide), ups_fn e, ups_ne (by decide)]
        exact hw.2 p p0 p1
  · intro τ u3 hw
    exact bEd_weigh_20 ⟨⟨by omega, by omega⟩, by rw [hw.1.1 55 rfl]; exact ⟨by omega, by omega⟩, fun _ => h τ hw, fun q => absurd q (by rw [hw.1.1 55 rfl]; omega)⟩
theorem cbfC {σ τ : Mem} (hI : Inv σ) (d : Nat) {p x : Int} (hp : 0 ≤ p ∧ p < 6) (hw : Weighed σ τ x (σ 64 60).toNat) {Q : RV → Mem → Prop} (h1 : cldP σ p x → Q (rI 1) τ) (h0 : ¬ cldP σ p x → Q (rI 0) τ) : Cl (d + 1) mEd_couldBeFirst [aR 55, aI p] τ Q := by
  have hE := hI.2.1.2.2.1
  have cN : ((σ 64 60).toNat : Int) ≤ σ 64 60 := by have := hE.2.1; omega
  have r1 := fbA_r hE (p := p) (x := x) (e := 1) (σ 64 60).toNat cN
  obtain ⟨y1, y2⟩ := hw.2 p hp.1 hp.2
  have z1 : -1 ≤ τ 62 p ∧ τ 62 p ≤ 1000000 := by rw [y1]; unfold nv; split <;> omega
  refine bEd_couldBeFirst_in ⟨(by omega), (by omega), ⟨by omega, by omega⟩, fun q => ?_, fun q => h0 (fun c => ?_)⟩
  · have e1 : eaV σ p x ≠ -1 := fun c => q (by rw [y1]; unfold nv; exact if_pos c)
    have y1' : τ 62 p = eaV σ p x := by rw [y1]; unfold nv; exact if_neg e1
    refine loop_up (G := fun i => (∀ q, 0 ≤ q → q < i → q ≠ p → laV σ q x = -1 ∨ eaV σ p x ≤ laV σ q x) → Ev (d + 1) mEd_couldBeFirst 15 [vR 55, vI p, vI i] [] τ Q) (hi := 6) _ 0 rfl (by decide) (fun j j0 j1 g => ?_) ?_ (fun y y0 y1 => absurd y1 (by omega))
    · intro hy
      obtain ⟨u1, u2⟩ := hw.2 j j0 j1
      have r0 := fbA_r hE (p := j) (x := x) (e := 0) (σ 64 60).toNat cN
      have z2 : -1 ≤ τ 63 j ∧ τ 63 j ≤ 1000000 := by rw [u2]; unfold nv; split <;> omega
      refine bEd_couldBeFirst_15 ⟨⟨by omega, by omega⟩, fun w => absurd w (by omega), fun _ => ⟨⟨by omega, by omega⟩, fun w => g (fun y y0 y1 y2 => hy y y0 (by omega) y2), fun w => ⟨(by omega), (by omega), (by omega), ⟨by omega, by omega⟩, ⟨by omega, by omega⟩, fun v => g (fun y y0 y1 y2 => ?_), fun v => h0 (fun c => ?_)⟩⟩⟩
      · by_cases e : y = j
        · subst e
          by_cases c : laV σ y x = -1
          · exact Or.inl c
          · rw [y1', u2] at v; unfold nv at v; rw [if_neg (show ¬ fbA σ y x 0 (σ 64 60).toNat = -1 from c)] at v; exact Or.inr v
        · exact hy y y0 (by omega) y2
      · rw [y1', u2] at v; unfold nv at v
        split at v
        · unfold eaV at v; omega
        · rename_i c2
          by_cases hj : j < σ 64 38
          · have := c.2 j j0 hj w
            unfold laV at this
            omega
          · exact c2 (fbA_no hE (by omega) _ cN)
    · intro hy
      exact bEd_couldBeFirst_15 ⟨by decide, fun _ => h1 ⟨e1, fun y y0 y1 y2 => hy y y0 (by have := hI.1.2.1.2.1.2.1; omega) y2⟩, fun w => absurd w (by decide)⟩
  · rw [y1] at q; unfold nv at q
    rw [if_neg (show ¬ fbA σ p x 1 (σ 64 60).toNat = -1 from c.1)] at q
    omega
theorem suaC {σ τ : Mem} (hI : Inv σ) (d : Nat) {p x : Int} (hp : 0 ≤ p ∧ p < 6) (hw : Weighed σ τ x (σ 64 60).toNat) {Q : RV → Mem → Prop} (h1 : sreP σ p x → Q (rI 1) τ) (h0 : ¬ sreP σ p x → Q (rI 0) τ) : Cl (d + 1) mEd_surelyAhead [aR 55, aI p] τ Q := by
  have hE := hI.2.1.2.2.1
  have cN : ((σ 64 60).toNat : Int) ≤ σ 64 60 := by have := hE.2.1; omega
  have r1 := fbA_r hE (p := p) (x := x) (e := 0) (σ 64 60).toNat cN
  obtain ⟨y2, y1⟩ := hw.2 p hp.1 hp.2
  have z1 : -1 ≤ τ 63 p ∧ τ 63 p ≤ 1000000 := by rw [y1]; unfold nv; split <;> omega
  refine bEd_surelyAhead_in ⟨(by omega), (by omega), ⟨by omega, by omega⟩, fun q => ?_, fun q => h0 (fun c => ?_)⟩
  · have e1 : laV σ p x ≠ -1 := fun c => q (by rw [y1]; unfold nv; exact if_pos c)
    have y1' : τ 63 p = laV σ p x := by rw [y1]; unfold nv; exact if_neg e1
    refine loop_up (G := fun i => (∀ q, 0 ≤ q → q < i → q ≠ p → eaV σ q x = -1 ∨ laV σ p x < eaV σ q x) → Ev (d + 1) mEd_surelyAhead 15 [vR 55, vI p, vI i] [] τ Q) (hi := 6) _ 0 rfl (by decide) (fun j j0 j1 g => ?_) ?_ (fun y y0 y1 => absurd y1 (by omega))
    · intro hy
      obtain ⟨u2, u1⟩ := hw.2 j j0 j1
      have r0 := fbA_r hE (p := j) (x := x) (e := 1) (σ 64 60).toNat cN
      have z2 : -1 ≤ τ 62 j ∧ τ 62 j ≤ 1000000 := by rw [u2]; unfold nv; split <;> omega
      refine bEd_surelyAhead_15 ⟨⟨by omega, by omega⟩, fun w => absurd w (by omega), fun _ => ⟨⟨by omega, by omega⟩, fun w => g (fun y y0 y1 y2 => hy y y0 (by omega) y2), fun w => ⟨(by omega), (by omega), (by omega), ⟨by omega, by omega⟩, ⟨by omega, by omega⟩, fun v => g (fun y y0 y1 y2 => ?_), fun v => h0 (fun c => ?_)⟩⟩⟩
      · by_cases e : y = j
        · subst e
          by_cases c : eaV σ y x = -1
          · exact Or.inl c
          · rw [y1', u2] at v; unfold nv at v; rw [if_neg (show ¬ fbA σ y x 1 (σ 64 60).toNat = -1 from c)] at v; exact Or.inr v
        · exact hy y y0 (by omega) y2
      · rw [y1', u2] at v; unfold nv at v
        split at v
        · unfold laV at v; omega
        · rename_i c2
          by_cases hj : j < σ 64 38
          · have := c.2 j j0 hj w
            unfold eaV at this
            omega
          · exact c2 (fbA_no hE (by omega) _ cN)
    · intro hy
      exact bEd_surelyAhead_15 ⟨by decide, fun _ => h1 ⟨e1, fun y y0 y1 y2 => hy y y0 (by have := hI.1.2.1.2.1.2.1; omega) y2⟩, fun w => absurd w (by decide)⟩
  · rw [y1] at q; unfold nv at q
    rw [if_neg (show ¬ fbA σ p x 0 (σ 64 60).toNat = -1 from c.1)] at q
    omega
noncomputable def cldA (σ : Mem) (x : Int) : Nat → Int
  | 0 => 0
  | n + 1 => @ite Int (cldP σ (Int.ofNat n) x) (Classical.propDecidable _) (i_or (cldA σ x n) (i_shl 1 (Int.ofNat n))) (cldA σ x n)
theorem cldA_S {σ : Mem} {x i : Int} (h : 0 ≤ i) : cldA σ x (i + 1).toNat = @ite Int (cldP σ i x) (Classical.propDecidable _) (i_or (cldA σ x i.toNat) (i_shl 1 i)) (cldA σ x i.toNat) := by
  rw [show (i + 1).toNat = i.toNat + 1 by omega]
  show @ite Int (cldP σ (Int.ofNat i.toNat) x) (Classical.propDecidable _) (i_or (cldA σ x i.toNat) (i_shl 1 (Int.ofNat i.toNat))) (cldA σ x i.toNat) = _
  rw [show Int.ofNat i.toNat = i from Int.toNat_of_nonneg h]
theorem cldA_r {σ : Mem} {x : Int} : ∀ n : Nat, n ≤ 8 → 0 ≤ cldA σ x n ∧ cldA σ x n < 2 ^ 8
  | 0, _ => by show (0 : Int) ≤ 0 ∧ (0 : Int) < 2 ^ 8; decide
  | n + 1, h => by
    have ih := cldA_r (σ := σ) (x := x) n (by omega)
    unfold cldA
    by_cases c : cldP σ (Int.ofNat n) x
    · rw [if_pos c]
      exact ins_lt ih ⟨Int.ofNat_nonneg _, by show (n : Int) < 8; omega⟩ (by decide)
    · rw [if_neg c]; exact ih
theorem i_or_0 {x : Int} (h : 0 ≤ x ∧ x < 256) : i_or x 0 = x := by
  obtain ⟨n, rfl⟩ : ∃ n : Nat, x = (n : Int) := ⟨_, toN h.1⟩
  rw [show (0 : Int) = ((0 : Nat) : Int) from rfl, i_or_n (by omega) (by decide), Nat.or_zero]
theorem c_could : ∀ (a : Int) (σ : Mem), Inv σ → rg a → Pair mF_could mR_could [aI a] σ := by
  intro a σ hI ha
  obtain ⟨⟨m1, m2, m3, m4⟩, ⟨n1, n2, n3, n4⟩, -⟩ := hI.1.2.1
  by_cases hx : 0 ≤ a ∧ a < σ 64 37
  · have hv := cldA_r (σ := σ) (x := a) (σ 64 38).toNat (by omega)
    refine pair_w (v := cldA σ a (σ 64 38).toNat) ⟨by omega, by omega⟩ ?_
    refine bF_could_in (d := 996) ⟨ha, ⟨by omega, by omega⟩, fun _ => weighC hI 996 ha (fun τ hw => ?_), fun q => absurd (show 0 ≤ a ∧ a < σ 15 0 by omega) q⟩
    have hI2 : Inv τ := hI.scrS (hw.1.mono (by decide) (by decide))
    have e15 := hw.1.1 15 rfl
    have e64 := hw.1.1 64 rfl
    have z0 : cldA σ a (0 : Int).toNat = 0 := rfl
    have key : Ev 999 mF_could 25 [vR 11, vI a, vI (cldA σ a (0 : Int).toNat), vI 0] [] τ (fun r τ => r = rI (cldA σ a (σ 64 38).toNat) ∧ (τ 0 = σ 0 ∧ τ 1 = σ 1) ∧ Inv τ ∧ Cl 999 mR_could [aR 64, aI a] τ (fun r τ' => r = rI (cldA σ a (σ 64 38).toNat) ∧ (τ' 0 = σ 0 ∧ τ' 1 = σ 1) ∧ Inv τ')) := by
      refine loop_up (G := fun i => Ev 999 mF_could 25 [vR 11, vI a, vI (cldA σ a i.toNat), vI i] [] τ (fun r τ => r = rI (cldA σ a (σ 64 38).toNat) ∧ (τ 0 = σ 0 ∧ τ 1 = σ 1) ∧ Inv τ ∧ Cl 999 mR_could [aR 64, aI a] τ (fun r τ' => r = rI (cldA σ a (σ 64 38).toNat) ∧ (τ' 0 = σ 0 ∧ τ' 1 = σ 1) ∧ Inv τ'))) (hi := σ 64 38) _ 0 rfl n2.1 (fun j j0 j1 g => ?_) ?_
      · rw [cldA_S j0] at g
        refine bF_could_25 (d := 996) ⟨⟨by omega, by omega⟩, by rw [e15]; exact ⟨by omega, by omega⟩, fun q => absurd q (by rw [e15]; omega), fun _ => cbfC hI 997 (by omega) hw (fun c => ⟨by decide, fun q => absurd q (by decide), fun _ => ?_⟩) (fun c => ⟨by decide, fun _ => ?_, fun q => absurd rfl q⟩)⟩
        · rw [if_pos c] at g; exact g
        · rw [if_neg c] at g; exact g
      · refine bF_could_25 (d := 996) ⟨⟨by omega, by omega⟩, by rw [e15]; exact ⟨by omega, by omega⟩, fun _ => ⟨rfl, ⟨hw.1.1 0 rfl, hw.1.1 1 rfl⟩, hI2, ?_⟩, fun q => absurd q (by rw [e15]; omega)⟩
        have eq : ∀ p x, cldP τ p x = cldP σ p x := fun p x => by
          have f : ∀ p x e n, fbA τ p x e n = fbA σ p x e n := fun p x e n => by
            induction n with
            | zero => rfl
            | succ n ih => unfold fbA; rw [ih, hw.1.1 95 rfl, hw.1.1 96 rfl, hw.1.1 97 rfl, hw.1.1 98 rfl]
          unfold cldP eaV laV
          rw [e64]
          simp only [f]
        refine bR_could_in (d := 995) ⟨ha, hI2.mOK, fun _ => ?_, fun q => absurd (show 0 ≤ a ∧ a < τ 64 37 by rw [e64]; exact hx) q⟩
        have key2 : Ev 999 mR_could 14 [vR 64, vI a, vI (cldA σ a (0 : Int).toNat), vI 0] [] τ (fun r τ' => r = rI (cldA σ a (σ 64 38).toNat) ∧ (τ' 0 = σ 0 ∧ τ' 1 = σ 1) ∧ Inv τ') := by
          refine loop_up (G := fun i => Ev 999 mR_could 14 [vR 64, vI a, vI (cldA σ a i.toNat), vI i] [] τ (fun r τ' => r = rI (cldA σ a (σ 64 38).toNat) ∧ (τ' 0 = σ 0 ∧ τ' 1 = σ 1) ∧ Inv τ')) (hi := σ 64 38) _ 0 rfl n2.1 (fun j j0 j1 g => ?_) ?_
          · rw [cldA_S j0] at g
            have hj := cldA_r (σ := σ) (x := a) j.toNat (by omega)
            refine bR_could_14 (d := 995) ⟨⟨by omega, by omega⟩, by rw [e64]; exact ⟨by omega, by omega⟩, fun q => absurd q (by rw [e64]; omega), fun _ => isFirstR0 hI2 995 ⟨by omega, by omega⟩ ha (fun c => ⟨by decide, fun q => absurd q (by decide), fun _ => ?_⟩) (fun c => ⟨by decide, fun _ => ?_, fun q => absurd rfl q⟩)⟩
            · rw [eq] at c; rw [if_pos c] at g; exact g
            · rw [eq] at c; rw [if_neg c] at g
              rw [i_or_0 hj]; exact g
          · exact bR_could_14 (d := 995) ⟨⟨by omega, by omega⟩, by rw [e64]; exact ⟨by omega, by omega⟩, fun _ => ⟨rfl, ⟨hw.1.1 0 rfl, hw.1.1 1 rfl⟩, hI2⟩, fun q => absurd q (by rw [e64]; omega)⟩
        exact key2
    exact key
  · refine pair_q (v := -1) hI (by decide) ?_ ?_
    · exact bF_could_in (d := 996) ⟨ha, ⟨by omega, by omega⟩, fun q => absurd (show 0 ≤ a ∧ a < σ 64 37 by omega) hx, fun _ => ⟨rfl, rfl⟩⟩
    · exact bR_could_in (d := 995) ⟨ha, hI.mOK, fun q => absurd q hx, fun _ => ⟨rfl, rfl⟩⟩
theorem sreP_u {σ : Mem} (hI : Inv σ) {p q x : Int} (hp : 0 ≤ p ∧ p < σ 64 38) (hq : 0 ≤ q ∧ q < σ 64 38) (h : sreP σ p x) (g : sreP σ q x) : p = q := by
  have hE := hI.2.1.2.2.1
  have cN : ((σ 64 60).toNat : Int) ≤ σ 64 60 := by have := hE.2.1; omega
  by_cases e : p = q
  · exact e
  · have a1 := h.2 q hq.1 hq.2 (fun z => e z.symm)
    have a2 := g.2 p hp.1 hp.2 e
    have b1 := fbA_el hE (p := p) (x := x) (σ 64 60).toNat cN
    have b2 := fbA_el hE (p := q) (x := x) (σ 64 60).toNat cN
    have c1 := h.1
    have c2 := g.1
    unfold eaV laV at *
    omega
theorem c_alone : ∀ (a : Int) (σ : Mem), Inv σ → rg a → Pair mF_alone mR_alone [aI a] σ := by
  intro a σ hI ha
  obtain ⟨⟨m1, m2, m3, m4⟩, ⟨n1, n2, n3, n4⟩, -⟩ := hI.1.2.1
  by_cases hx : 0 ≤ a ∧ a < σ 64 37
  · obtain ⟨v, hv⟩ : ∃ v : Int, (0 ≤ v ∧ v < σ 64 38 ∧ sreP σ v a) ∨ (v = -1 ∧ ∀ p, 0 ≤ p → p < σ 64 38 → ¬ sreP σ p a) := by
      by_cases c : ∃ p, 0 ≤ p ∧ p < σ 64 38 ∧ sreP σ p a
      · obtain ⟨p, hp⟩ := c; exact ⟨p, Or.inl hp⟩
      · exact ⟨-1, Or.inr ⟨rfl, fun p p0 p1 p2 => c ⟨p, p0, p1, p2⟩⟩⟩
    refine pair_w (v := v) (by rcases hv with h | h <;> exact ⟨by omega, by omega⟩) ?_
    refine bF_alone_in (d := 996) ⟨ha, ⟨by omega, by omega⟩, fun _ => weighC hI 996 ha (fun τ hw => ?_), fun q => absurd (show 0 ≤ a ∧ a < σ 15 0 by omega) q⟩
    have hI2 : Inv τ := hI.scrS (hw.1.mono (by decide) (by decide))
    have e15 := hw.1.1 15 rfl
    have e64 := hw.1.1 64 rfl
    have eq : ∀ p x, sreP τ p x = sreP σ p x := fun p x => by
      have f : ∀ p x e n, fbA τ p x e n = fbA σ p x e n := fun p x e n => by
        induction n with
        | zero => rfl
        | succ n ih => unfold fbA; rw [ih, hw.1.1 95 rfl, hw.1.1 96 rfl, hw.1.1 97 rfl, hw.1.1 98 rfl]
      unfold sreP eaV laV
      rw [e64]
      simp only [f]
    have fin : Cl 999 mR_alone [aR 64, aI a] τ (fun r τ' => r = rI v ∧ (τ' 0 = σ 0 ∧ τ' 1 = σ 1) ∧ Inv τ') := by
      refine bR_alone_in (d := 995) ?_
      have key2 : ∀ w : Int, (w = -1 ∧ (∀ p, 0 ≤ p → p < 0 → ¬ sreP σ p a) ∨ w = v ∧ 0 ≤ v) → Ev 999 mR_alone 4 [vR 64, vI a, vI w, vI 0] [] τ (fun r τ' => r = rI v ∧ (τ' 0 = σ 0 ∧ τ' 1 = σ 1) ∧ Inv τ') := by
        refine loop_up (G := fun i => ∀ w : Int, (w = -1 ∧ (∀ p, 0 ≤ p → p < i → ¬ sreP σ p a) ∨ w = v ∧ 0 ≤ v) → Ev 999 mR_alone 4 [vR 64, vI a, vI w, vI i] [] τ (fun r τ' => r = rI v ∧ (τ' 0 = σ 0 ∧ τ' 1 = σ 1) ∧ Inv τ')) (hi := σ 64 38) _ 0 rfl n2.1 (fun j j0 j1 g => ?_) ?_
        · intro w hw2
          refine bR_alone_4 (d := 995) ⟨ha, hI2.mOK, fun _ => ⟨⟨by omega, by omega⟩, by rw [e64]; exact ⟨by omega, by omega⟩, fun q => absurd q (by rw [e64]; omega), fun _ => isFirstR1 hI2 995 ⟨by omega, by omega⟩ ha (fun c => ⟨by decide, fun q => absurd q (by decide), fun _ => ?_⟩) (fun c => ⟨by decide, fun _ => ?_, fun q => absurd rfl q⟩)⟩, fun q => absurd (by rw [e64]; exact hx) q⟩
          · rw [eq] at c
            refine g j (Or.inr ?_)
            rcases hv with h | h
            · have := sreP_u hI ⟨j0, j1⟩ ⟨h.1, h.2.1⟩ c h.2.2
              exact ⟨this, h.1⟩
            · exact absurd c (h.2 j j0 j1)
          · rw [eq] at c
            refine g w ?_
            rcases hw2 with h | h
            · refine Or.inl ⟨h.1, fun p p0 p1 => ?_⟩
              by_cases e : p = j
              · rw [e]; exact c
              · exact h.2 p p0 (by omega)
            · exact Or.inr h
        · intro w hw2
          refine bR_alone_4 (d := 995) ⟨ha, hI2.mOK, fun _ => ⟨⟨by omega, by omega⟩, by rw [e64]; exact ⟨by omega, by omega⟩, fun _ => ⟨?_, ⟨hw.1.1 0 rfl, hw.1.1 1 rfl⟩, hI2⟩, fun q => absurd q (by rw [e64]; omega)⟩, fun q => absurd (by rw [e64]; exact hx) q⟩
          rcases hw2 with h | h
          · rcases hv with h2 | h2
            · exact absurd h2.2.2 (h.2 v h2.1 h2.2.1)
            · rw [h.1, h2.1]
          · rw [h.1]
      exact key2 (-1) (Or.inl ⟨rfl, fun p p0 p1 => absurd p1 (by omega)⟩)
    refine loop_up (G := fun i => (∀ p, 0 ≤ p → p < i → ¬ sreP σ p a) → Ev 999 mF_alone 23 [vR 11, vI a, vI i] [] τ (fun r τ => r = rI v ∧ (τ 0 = σ 0 ∧ τ 1 = σ 1) ∧ Inv τ ∧ Cl 999 mR_alone [aR 64, aI a] τ (fun r τ' => r = rI v ∧ (τ' 0 = σ 0 ∧ τ' 1 = σ 1) ∧ Inv τ'))) (hi := σ 64 38) _ 0 rfl n2.1 (fun j j0 j1 g => ?_) ?_ (fun p p0 p1 => absurd p1 (by omega))
    · intro hy
      refine bF_alone_23 (d := 996) ⟨⟨by omega, by omega⟩, by rw [e15]; exact ⟨by omega, by omega⟩, fun q => absurd q (by rw [e15]; omega), fun _ => suaC hI 997 (by omega) hw (fun c => ⟨by decide, fun q => absurd q (by decide), fun _ => ⟨?_, ⟨hw.1.1 0 rfl, hw.1.1 1 rfl⟩, hI2, fin⟩⟩) (fun c => ⟨by decide, fun _ => g (fun p p0 p1 => ?_), fun q => absurd rfl q⟩)⟩
      · rcases hv with h | h
        · rw [sreP_u hI ⟨j0, j1⟩ ⟨h.1, h.2.1⟩ c h.2.2]
        · exact absurd c (h.2 j j0 j1)
      · by_cases e : p = j
        · rw [e]; exact c
        · exact hy p p0 (by omega)
    · intro hy
      refine bF_alone_23 (d := 996) ⟨⟨by omega, by omega⟩, by rw [e15]; exact ⟨by omega, by omega⟩, fun _ => ⟨?_, ⟨hw.1.1 0 rfl, hw.1.1 1 rfl⟩, hI2, fin⟩, fun q => absurd q (by rw [e15]; omega)⟩
      rcases hv with h | h
      · exact absurd h.2.2 (hy v h.1 h.2.1)
      · rw [h.1]
  · refine pair_q (v := -1) hI (by decide) ?_ ?_
    · exact bF_alone_in (d := 996) ⟨ha, ⟨by omega, by omega⟩, fun q => absurd (show 0 ≤ a ∧ a < σ 64 37 by omega) hx, fun _ => ⟨rfl, rfl⟩⟩
    · exact bR_alone_in (d := 995) (bR_alone_4 (d := 995) ⟨ha, hI.mOK, fun q => absurd q hx, fun _ => ⟨rfl, rfl⟩⟩)
