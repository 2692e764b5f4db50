/-! ===== KEPT BY A HABIT; CASES kept, habit ===== -/
def KV (σ : Mem) (o : Option (List Cla)) (p n hb v : Int) : Prop := ∃ c, KM σ 999 c (σ 81) ∧ ChH σ o hb p (n - 1).toNat c v
theorem joyHabC {σ : Mem} (hI : Inv σ) {o : Option (List Cla)} (hH : Held σ o) (d : Nat) {p hb n : Int} (hp : 0 ≤ p ∧ p < σ 64 38) (hhb : 0 ≤ hb ∧ hb ≤ 3) (hn : 1 ≤ n ∧ n ≤ 30) {υ : Mem} (hs : Sm σ υ (40 :: scrSL) []) (hg : RG (υ 40)) {Q : RV → Mem → Prop} (hQ : ∀ τ v, KV σ o p n hb v → (0 ≤ v ∧ v ≤ 1000000) → Sm σ τ (40 :: scrSL) [] → RG (τ 40) → Q (rI v) τ) : Cl (d + 20) mF_joyByHabit [aR 11, aI p, aI hb, aI n] υ Q := by
  have hM := hI.1.2.1
  have cm : CM σ (σ 38) (σ 81) := hI.relN.cm
  have e38 : υ 38 = σ 38 := hs.1 38 rfl
  refine bF_joyByHabit_in (bSt_takeOver_r39_r38_in (d := d + 18) ⟨by decide, ?_⟩)
  have s1 : Sm σ (su υ 40 (cpy (υ 38) (υ 40) 0 0 175)) (40 :: scrSL) [] := hs.su rfl (by decide)
  have km : KM σ 999 ((su υ 40 (cpy (υ 38) (υ 40) 0 0 175)) 40) (σ 81) := by
    rw [su_eq, e38]
    have lo : ∀ i, 0 ≤ i → i < 175 → cpy (σ 38) (υ 40) 0 0 175 i = σ 38 i := fun i i0 i1 => by unfold cpy; rw [if_pos ⟨by omega, by omega⟩]; congr 1; omega
    exact ⟨cm.1.cg cm.2.1.2.2.2.2.2.2.1 (fun i i0 i1 => lo i i0 (by omega)) (fun _ _ _ => rfl), cm.2.1, cm.2.2.1, by rw [lo 2 (by decide) (by decide)]; exact cm.2.2.2.1, RG.ofcpy cm.2.2.2.2.1 hg, cm.2.2.2.2.2⟩
  generalize su υ 40 (cpy (υ 38) (υ 40) 0 0 175) = υ1 at *
  refine habC hM hH d hp hhb hn (n - 1).toNat 1 0 999 υ1 (by decide) (by omega) (by omega) s1 (km_mO km) (fun _ => rfl) (fun τ v ch hv s g => ?_)
  rw [Int.zero_add]
  exact hQ τ v ⟨_, km, ch⟩ ⟨hv.1, by omega⟩ s g
/-- the reference's row is as it was -/
def BK (σ ω : Mem) : Prop := Sm σ ω (40 :: 81 :: scrSL) scrSJ ∧ (∀ i, 0 ≤ i → i < 355 → ω 81 i = σ 81 i) ∧ RG (ω 81)
theorem km_355 {σ : Mem} {D : Int} {c m m' : Int → Int} (h : KM σ D c m) (he : ∀ i, 0 ≤ i → i < 355 → m' i = m i) (hg : RG m') : KM σ D c m' := by
  obtain ⟨hS, hW, h0, h2, hgc, hgm⟩ := h
  exact ⟨hS.cg hW.2.2.2.2.2.2.1 (fun _ _ _ => rfl) (fun i i0 i1 => he i i0 (by omega)), hW.cg (fun i i0 i1 => he i i0 (by omega)), by rw [he 114 (by decide) (by decide)]; exact h0, h2, hgc, hg⟩
theorem joyHabR {σ : Mem} (hI : Inv σ) {o : Option (List Cla)} (hH : Held σ o) (d : Nat) {p hb n v : Int} (hp : 0 ≤ p ∧ p < σ 64 38) (hhb : 0 ≤ hb ∧ hb ≤ 3) (hn : 1 ≤ n ∧ n ≤ 30) (hk : KV σ o p n hb v) {ω : Mem} (hB : BK σ ω) {Q : RV → Mem → Prop} (hQ : ∀ ω', BK σ ω' → Sm ω ω' (81 :: scrSL) scrSJ → Q (rI v) ω') : Cl (d + 36) mR_keptBy [aR 64, aI p, aI hb, aI n] ω Q := by
  have hM := hI.1.2.1
  have n2 := hM.2.1.2.1
  have q0 := hI.2.2.2.2.2.1
  obtain ⟨c, km, ch⟩ := hk
  obtain ⟨bs, be, bg⟩ := hB
  have f43 : ω 64 43 = 0 := by rw [bs.2 43 rfl]; exact q0
  refine bR_keptBy_in (asideR (d + 34) (fun ω1 s1 v43 c91 => ⟨(by omega), (by omega), ?_⟩))
  have o81 : ω1 81 = ω 81 := s1.1 81 rfl
  have s01 : Sm σ ω1 (40 :: 81 :: scrSL) (43 :: scrSJ) := (bs.mono (by decide) (by decide)).trans (s1.mono (by decide) (by decide))
  rw [o81]
  refine habR hM hH d hp hhb hn (n - 1).toNat 0 999 v c vU ω1 (by decide) (by omega) (by omega) ch s01 v43 (by rw [o81]; exact km_355 km be bg) (fun ω2 x5 u7 s2 g2 ev => ?_)
  refine bR_keptBy_21 ⟨⟨by omega, by omega⟩, ⟨by omega, by omega⟩, fun _ => ⟨(by omega), (by omega), ?_⟩, fun z => absurd z (by omega)⟩
  have r91 : ∀ i, 0 ≤ i → i < 355 → ω2 91 i = ω 81 i := fun i i0 i1 => by rw [s2.1 91 rfl]; exact c91 i i0 i1
  refine backR (d + 34) g2 (fun i i0 i1 => by rw [r91 i i0 i1]; exact bg i) (fun ω3 s3 v3 c3 g3 => ?_)
  have ee : ω2 81 (54 + p) - ω 81 (54 + p) + x5 = v := by rw [o81] at ev; omega
  rw [ee]
  have sf : Sm ω ω3 (81 :: scrSL) scrSJ := Sm.drop (j := 43) (((s1.mono (by decide) (by decide)).trans (s2.mono (by decide) (by decide))).trans (s3.mono (by decide) (by decide))) (by rw [v3, f43])
  exact hQ ω3 ⟨bs.trans (sf.mono (by decide) (by decide)), fun i i0 i1 => by rw [c3 i i0 i1, r91 i i0 i1]; exact be i i0 i1, g3⟩ sf
theorem KV_cg {σ τ : Mem} (sk : SmMk σ τ) {o : Option (List Cla)} {p n hb v : Int} (e81 : τ 81 = σ 81) : KM τ 999 = KM σ 999 := by
  funext c m
  unfold KM
  rw [sk.2.1, sk.2.2.1]
theorem c_kept : ∀ (a b c : Int) (σ : Mem), Inv σ → rg a → rg b → rg c → Pair mF_kept mR_kept [aI a, aI b, aI c] σ := by
  intro p hb n σ hI ha hb' hc
  have hM := hI.1.2.1
  obtain ⟨o, hH⟩ := hI.heldO
  obtain ⟨⟨m1, m2, m3, m4⟩, ⟨n1, n2, n3, n4⟩, -⟩ := hI.1.2.1
  have g40 : RG (σ 40) := hI.2.2.2.2.2.2.2.2
  have g81 : RG (σ 81) := hI.2.1.2.2.2.2.1
  by_cases hp : 0 ≤ p ∧ p < σ 64 38
  · by_cases hhb : 0 ≤ hb ∧ hb ≤ 3
    · by_cases hn : 1 ≤ n ∧ n ≤ 30
      · refine pair_k (K := fun v τ => KV σ o p n hb v) hI ?_ (fun v τ hv hI2 hs hk => ?_)
        · refine bF_kept_in (d := 978) ⟨ha, ⟨by omega, by omega⟩, fun _ => ⟨hb', fun z => absurd z (by omega), fun _ => ⟨fun z => absurd z (by omega), fun _ => ⟨hc, fun z => absurd z (by omega), fun _ => ⟨fun _ => ?_, fun z => absurd z (by omega)⟩⟩⟩⟩, fun z => absurd (by omega) z⟩
          exact joyHabC hI hH 978 hp hhb hn Sm.refl g40 (fun τ v kv hv s g => ⟨v, rfl, ⟨by omega, by omega⟩, s.mono (by decide) (by decide), g, kv⟩)
        · have sk : SmMk σ τ := SmMk.of hs (by decide) (by decide)
          have e81 : τ 81 = σ 81 := hs.1 81 rfl
          have bk : BK σ τ := ⟨hs.mono (by decide) (by decide), fun i _ _ => by rw [e81], by rw [e81]; exact g81⟩
          refine bR_kept_in (d := 962) ⟨ha, hI2.mOK, fun _ => ⟨hb', fun _ => ⟨hc, fun _ => ?_, fun z => absurd hn z⟩, fun z => absurd hhb z⟩, fun z => absurd (by rw [sk.2.2.1]; exact hp) z⟩
          refine joyHabR hI hH 962 hp hhb hn hk bk (fun ω' b' s' => ⟨rfl, s', fun i i0 i1 => by rw [b'.2.1 i i0 i1, e81], b'.2.2⟩)
      · refine pair_q (v := -1) hI (by decide) ?_ ?_
        · exact bF_kept_in (d := 978) ⟨ha, ⟨by omega, by omega⟩, fun _ => ⟨hb', fun z => absurd z (by omega), fun _ => ⟨fun z => absurd z (by omega), fun _ => ⟨hc, fun _ => ⟨rfl, rfl⟩, fun z => ⟨fun y => absurd ⟨z, y⟩ hn, fun _ => ⟨rfl, rfl⟩⟩⟩⟩⟩, fun z => absurd (by omega) z⟩
        · exact bR_kept_in (d := 962) ⟨ha, hI.mOK, fun _ => ⟨hb', fun _ => ⟨hc, fun z => absurd z hn, fun _ => ⟨rfl, rfl⟩⟩, fun z => absurd hhb z⟩, fun z => absurd hp z⟩
    · refine pair_q (v := -1) hI (by decide) ?_ ?_
      · exact bF_kept_in (d := 978) ⟨ha, ⟨by omega, by omega⟩, fun _ => ⟨hb', fun _ => ⟨rfl, rfl⟩, fun z => ⟨fun _ => ⟨rfl, rfl⟩, fun y => absurd ⟨z, by omega⟩ hhb⟩⟩, fun z => absurd (by omega) z⟩
      · exact bR_kept_in (d := 962) ⟨ha, hI.mOK, fun _ => ⟨hb', fun z => absurd z hhb, fun _ => ⟨rfl, rfl⟩⟩, fun z => absurd hp z⟩
  · refine pair_q (v := -1) hI (by decide) ?_ ?_
    · exact bF_kept_in (d := 978) ⟨ha, ⟨by omega, by omega⟩, fun z => absurd (by omega) hp, fun _ => ⟨rfl, rfl⟩⟩
    · exact bR_kept_in (d := 962) ⟨ha, hI.mOK, fun z => absurd z hp, fun _ => ⟨rfl, rfl⟩⟩
/-- the best of so many habits -/
def BST (K : Int → Int → Prop) : Nat → Int → Int → Prop
  | 0, b, m => b = 0 ∧ m = -1
  | h + 1, b, m => ∃ b0 m0 w, BST K h b0 m0 ∧ K (h : Int) w ∧ (0 ≤ w ∧ w ≤ 1000000) ∧ (m0 < w → b = (h : Int) ∧ m = w) ∧ (¬ m0 < w → b = b0 ∧ m = m0)
theorem BST_r {K : Int → Int → Prop} : ∀ {h : Nat} {b m : Int}, BST K h b m → (0 ≤ b ∧ b ≤ (h : Int)) ∧ (-1 ≤ m ∧ m ≤ 1000000)
  | 0, b, m, ⟨e1, e2⟩ => by omega
  | h + 1, b, m, ⟨b0, m0, w, q, _, r, x, y⟩ => by
    have ih := BST_r q
    by_cases c : m0 < w
    · obtain ⟨e1, e2⟩ := x c; omega
    · obtain ⟨e1, e2⟩ := y c; omega
theorem c_habit : ∀ (a b c : Int) (σ : Mem), Inv σ → rg a → rg b → rg c → Pair mF_habit mR_habit [aI a, aI b, aI c] σ := by
  intro p n w σ hI ha hb hc
  have hM := hI.1.2.1
  obtain ⟨o, hH⟩ := hI.heldO
  obtain ⟨⟨m1, m2, m3, m4⟩, ⟨n1, n2, n3, n4⟩, -⟩ := hI.1.2.1
  have g40 : RG (σ 40) := hI.2.2.2.2.2.2.2.2
  have g81 : RG (σ 81) := hI.2.1.2.2.2.2.1
  by_cases hp : 0 ≤ p ∧ p < σ 64 38
  · by_cases hn : 1 ≤ n ∧ n ≤ 30
    · by_cases hw : 0 ≤ w ∧ w ≤ 1
      · refine pair_k (K := fun v τ => ∃ b m, BST (KV σ o p n) 4 b m ∧ v = if w = 0 then b else m) hI ?_ (fun v τ hv hI2 hs hk => ?_)
        · refine bF_habit_in (d := 978) ⟨ha, ⟨by omega, by omega⟩, fun _ => ⟨hb, fun z => absurd z (by omega), fun _ => ⟨fun z => absurd z (by omega), fun _ => ⟨hc, fun z => absurd z (by omega), fun _ => ⟨fun _ => ?_, fun z => absurd z (by omega)⟩⟩⟩⟩, fun z => absurd (by omega) z⟩
          have loop : ∀ (k h : Nat) (b m : Int) (u7 : Option AV) (υ : Mem), h + k = 4 → BST (KV σ o p n) h b m → Sm σ υ (40 :: scrSL) [] → RG (υ 40) → Ev 999 mF_habit 42 [vR 11, vI p, vI n, vI w, vI b, vI m, vI (h : Int), u7] [] υ (fun r τ => ∃ v, r = rI v ∧ rg v ∧ Sm σ τ (40 :: scrSL) scrSJ ∧ RG (τ 40) ∧ ∃ b m, BST (KV σ o p n) 4 b m ∧ v = if w = 0 then b else m) := by
            intro k
            induction k with
            | zero =>
              intro h b m u7 υ hk hB hs hg
              have r := BST_r hB
              obtain rfl : h = 4 := by omega
              exact bF_habit_42 (d := 978) ⟨⟨by omega, by omega⟩, fun _ => ⟨hc, fun z => ⟨m, rfl, ⟨by omega, by omega⟩, hs.mono (by decide) (by decide), hg, b, m, hB, by rw [if_neg z]⟩, fun z => ⟨b, rfl, ⟨by omega, by omega⟩, hs.mono (by decide) (by decide), hg, b, m, hB, by rw [if_pos z]⟩⟩, fun z => absurd z (by decide)⟩
            | succ k ih =>
              intro h b m u7 υ hk hB hs hg
              have r := BST_r hB
              refine bF_habit_42 (d := 978) ⟨⟨by omega, by omega⟩, fun z => absurd z (by omega), fun _ => ?_⟩
              refine joyHabC hI hH 978 hp (hb := (h : Int)) (by omega) hn hs hg (fun τ v kv hv s g => ⟨⟨by omega, by omega⟩, ⟨by omega, by omega⟩, fun z => ?_, fun z => ?_⟩)
              · exact ih (h + 1) b m _ τ (by omega) ⟨b, m, v, hB, kv, hv, fun y => absurd y (by omega), fun _ => ⟨rfl, rfl⟩⟩ s g
              · exact ih (h + 1) (h : Int) v _ τ (by omega) ⟨b, m, v, hB, kv, hv, fun _ => ⟨rfl, rfl⟩, fun y => absurd z y⟩ s g
          exact loop 4 0 0 (-1) vU σ rfl ⟨rfl, rfl⟩ Sm.refl g40
        · obtain ⟨b, m, hB, rfl⟩ := hk
          have sk : SmMk σ τ := SmMk.of hs (by decide) (by decide)
          have e81 : τ 81 = σ 81 := hs.1 81 rfl
          have bk : BK σ τ := ⟨hs.mono (by decide) (by decide), fun i _ _ => by rw [e81], by rw [e81]; exact g81⟩
          have hB4 := BST_r hB
          obtain ⟨b2, q2, w3, ⟨b1, q1, w2, ⟨b0, q0, w1, ⟨bz, qz, w0, ⟨rfl, rfl⟩, k0, r0, x0, y0⟩, k1, r1, x1, y1⟩, k2, r2, x2, y2⟩, k3, r3, x3, y3⟩ := hB
          obtain ⟨e0, e1⟩ := x0 (by omega)
          rw [e1] at x1 y1
          rw [e0] at y1
          refine bR_habit_in (d := 962) ⟨ha, hI2.mOK, fun _ => ⟨hb, fun _ => ⟨hc, fun _ => ?_, fun z => absurd hw z⟩, fun z => absurd hn z⟩, fun z => absurd (by rw [sk.2.2.1]; exact hp) z⟩
          -- one more habit
          have one : ∀ (h b0 q0 b' q' w1 : Int) (u7 : Option AV) (ω : Mem) (Q : RV → Mem → Prop), (1 ≤ h ∧ h ≤ 3) → (-1 ≤ q0 ∧ q0 ≤ 1000000) → KV σ o p n h w1 → (0 ≤ w1 ∧ w1 ≤ 1000000) → (q0 < w1 → b' = h ∧ q' = w1) → (¬ q0 < w1 → b' = b0 ∧ q' = q0) → BK σ ω → (∀ ω' u7, BK σ ω' → Sm ω ω' (81 :: scrSL) scrSJ → Ev 999 mR_habit 44 [vR 64, vI p, vI n, vI w, vI b', vI q', vI (h + 1), u7] [] ω' Q) → Ev 999 mR_habit 44 [vR 64, vI p, vI n, vI w, vI b0, vI q0, vI h, u7] [] ω Q := by
            intro h b0 q0 b' q' w1 u7 ω Q hh hq hk hr hx hy hb' hQ
            refine bR_habit_44 (d := 962) ⟨⟨by omega, by omega⟩, fun z => absurd z (by omega), fun _ => ?_⟩
            refine joyHabR hI hH 962 hp (hb := h) ⟨by omega, by omega⟩ hn hk hb' (fun ω' b2 s2 => ⟨⟨by omega, by omega⟩, ⟨by omega, by omega⟩, fun z => ?_, fun z => ?_⟩)
            · obtain ⟨e1, e2⟩ := hy (by omega)
              rw [show max q0 w1 = q' by omega, ← e1]
              exact hQ ω' _ b2 s2
            · obtain ⟨e1, e2⟩ := hx z
              have := hQ ω' (vI w1) b2 s2
              rw [e1] at this
              rw [show max q0 w1 = q' by omega]
              exact this
          refine joyHabR hI hH 962 hp (hb := 0) (by decide) hn k0 bk (fun ω0 c0 s0 => ?_)
          refine one 1 0 w0 b1 q1 w1 vU ω0 _ (by decide) ⟨by omega, by omega⟩ k1 r1 x1 y1 c0 (fun ω1 u7 c1 s1 => ?_)
          have z1 : -1 ≤ q1 ∧ q1 ≤ 1000000 := by
            by_cases c : w0 < w1
            · obtain ⟨e1, e2⟩ := x1 c; omega
            · obtain ⟨e1, e2⟩ := y1 c; omega
          refine one 2 b1 q1 b2 q2 w2 _ ω1 _ (by decide) z1 k2 r2 x2 y2 c1 (fun ω2 u7 c2 s2 => ?_)
          have z2 : -1 ≤ q2 ∧ q2 ≤ 1000000 := by
            by_cases c : q1 < w2
            · obtain ⟨e1, e2⟩ := x2 c; omega
            · obtain ⟨e1, e2⟩ := y2 c; omega
          refine one 3 b2 q2 b m w3 _ ω2 _ (by decide) z2 k3 r3 x3 y3 c2 (fun ω3 u7 c3 s3 => ?_)
          have fin : Sm τ ω3 (81 :: scrSL) scrSJ ∧ (∀ i, 0 ≤ i → i < 355 → ω3 81 i = τ 81 i) ∧ RG (ω3 81) := ⟨s0.trans (s1.trans (s2.trans s3)), fun i i0 i1 => by rw [c3.2.1 i i0 i1, e81], c3.2.2⟩
          exact bR_habit_44 (d := 962) ⟨by decide, fun _ => ⟨hc, fun z => ⟨by rw [if_neg z], fin⟩, fun z => ⟨by rw [if_pos z], fin⟩⟩, fun z => absurd z (by decide)⟩
      · refine pair_q (v := -1) hI (by decide) ?_ ?_
        · exact bF_habit_in (d := 978) ⟨ha, ⟨by omega, by omega⟩, fun _ => ⟨hb, fun z => absurd z (by omega), fun _ => ⟨fun z => absurd z (by omega), fun _ => ⟨hc, fun _ => ⟨rfl, rfl⟩, fun z => ⟨fun y => absurd ⟨z, y⟩ hw, fun _ => ⟨rfl, rfl⟩⟩⟩⟩⟩, fun z => absurd (by omega) z⟩
        · exact bR_habit_in (d := 962) ⟨ha, hI.mOK, fun _ => ⟨hb, fun _ => ⟨hc, fun z => absurd z hw, fun _ => ⟨rfl, rfl⟩⟩, fun z => absurd hn z⟩, fun z => absurd hp z⟩
    · refine pair_q (v := -1) hI (by decide) ?_ ?_
      · exact bF_habit_in (d := 978) ⟨ha, ⟨by omega, by omega⟩, fun _ => ⟨hb, fun _ => ⟨rfl, rfl⟩, fun z => ⟨fun _ => ⟨rfl, rfl⟩, fun y => absurd ⟨z, y⟩ hn⟩⟩, fun z => absurd (by omega) z⟩
      · exact bR_habit_in (d := 962) ⟨ha, hI.mOK, fun _ => ⟨hb, fun z => absurd z hn, fun _ => ⟨rfl, rfl⟩⟩, fun z => absurd hp z⟩
  · refine pair_q (v := -1) hI (by decide) ?_ ?_
    · exact bF_habit_in (d := 978) ⟨ha, ⟨by omega, by omega⟩, fun z => absurd (by omega) hp, fun _ => ⟨rfl, rfl⟩⟩
    · exact bR_habit_in (d := 962) ⟨ha, hI.mOK, fun z => absurd z hp, fun _ => ⟨rfl, rfl⟩⟩
