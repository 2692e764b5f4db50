/-! ===== HAVING, BY THE REFERENCE ===== -/
/-- the joy of a thing for one who has had s -/
def wjv (σ : Mem) (o : Option (List Cla)) (m : Int → Int) (p s x : Int) : Int := jV (whF o (ltr (σ 82 x) (σ 83 x) (m 72) (m (66 + p)) (m (60 + p)) (if σ 84 p = x then 1 else 0) (bcF s))) (spv σ s x)
theorem wjv_r {σ : Mem} (hM : MarkI σ) (o : Option (List Cla)) (m : Int → Int) (p s x : Int) : 0 ≤ wjv σ o m p s x ∧ wjv σ o m p s x ≤ 999 := by
  have := jV_r (whF_r o (ltr (σ 82 x) (σ 83 x) (m 72) (m (66 + p)) (m (60 + p)) (if σ 84 p = x then 1 else 0) (bcF s))) (spv_r hM s x)
  exact ⟨this.1, this.2.1⟩
theorem haveR {σ : Mem} (hM : MarkI σ) {o : Option (List Cla)} (hH : Held σ o) {T P D B : Int} {m : Int → Int} (hW : RowW T P D B m) (hB : B ≤ 47952) (hT : T = σ 64 37) (hDD : D ≤ 4000) (h0 : 0 ≤ m 114 ∧ m 114 ≤ 60) (hq : rg (σ 64 43)) {p : Int} (hp : 0 ≤ p ∧ p < σ 64 38) : ∀ (f d : Nat) (x g : Int) (s : HvS) (ω : Mem) (Q : RV → Mem → Prop), (0 ≤ x ∧ x < σ 64 37) → HvI (σ 64 43) m p (σ 64 37) (hvA s x g) → GOK (σ 64 43) m p (σ 64 37) s.2 → gnL (σ 64 43) m p s.2 (48 + p) = s.1 → 9 ≤ bcF (ins s.1 x) + (f : Int) → Sm σ ω [73, 74, 81] [] → ω 81 = gnL (σ 64 43) m p s.2 →
    (∀ ω', Sm σ ω' [73, 74, 81] [] → ω' 81 = gnL (σ 64 43) m p (hvG (wjv σ o m p) (hdm m p (σ 64 37)) (σ 88) (σ 89) (σ 64 40).toNat f x (hvA s x g)).2 → Q (rI (tot (hvG (wjv σ o m p) (hdm m p (σ 64 37)) (σ 88) (σ 89) (σ 64 40).toNat f x (hvA s x g)).2 - tot s.2)) ω') → Cl (d + f + 8) mR_haveFor [aR 64, aI p, aI x, aI g] ω Q := by
  subst hT
  have hM' := hM
  obtain ⟨⟨m1, m2, m3, m4⟩, ⟨n1, n2, n3, n4⟩, -, -, -, -, m5⟩ := hM
  have p2 := p2_le n1
  have hct : ∀ i, 0 ≤ i → i < (((σ 64 40).toNat : Nat) : Int) → 0 ≤ σ 89 i ∧ σ 89 i < σ 64 37 := fun i i0 i1 => (m5 i i0 (by omega)).2.2.1
  have hhd : ∀ u, 0 ≤ u → bt (hdm m p (σ 64 37)) u = true → u < σ 64 37 ∧ 0 < m (8 * p + u) := fun u u0 hb => ((hdm_r n1).2.2 u u0).mp hb
  have hhd2 : ∀ u, 0 ≤ u → u < σ 64 37 → 0 < m (8 * p + u) → bt (hdm m p (σ 64 37)) u = true := fun u u0 u1 hb => ((hdm_r n1).2.2 u u0).mpr ⟨u1, hb⟩
  have hw : ∀ s x, 0 ≤ wjv σ o m p s x ∧ wjv σ o m p s x ≤ 999 := fun s x => wjv_r hM' o m p s x
  obtain ⟨step, okG⟩ := hv_ok (w := wjv σ o m p) (hd := hdm m p (σ 64 37)) (cf := σ 88) (ct := σ 89) (C := (σ 64 40).toNat) (q := σ 64 43) h0 (p := p) (by omega) n1 hw hct hhd
  intro f
  induction f with
  | zero =>
    intro d x g s ω Q hx hI hg1 hg2 hf sm he h
    exfalso
    have := (bcF_r (s := ins s.1 x) (by have := hI.1; exact ⟨this.1, by have := this.2; show ins s.1 x < 256; have e : (hvA s x g).1 = ins s.1 x := rfl; rw [e] at this; omega⟩)).2
    omega
  | succ f ih =>
    intro d x g s ω Q hx hI hg1 hg2 hf sm he h
    have c114 := gnL_114 h0 (p := p) (by omega) (by omega : σ 64 37 ≤ 8) hg1
    have e43 : ω 64 43 = σ 64 43 := by rw [sm.1 64 rfl]
    refine bR_haveFor_in ⟨(by omega), (by omega), fun μ1 f1 => ⟨(by omega), (by omega), fun μ2 f2 => ⟨(by omega), (by omega), fun μ3 f3 => ?_⟩⟩⟩
    have r3 : μ3 81 = gnB (ω 81) (8 * p + x) (48 + p) (54 + p) x g := by rw [f3, ups_row, f2, ups_row, f1, ups_row]; rfl
    have s3 : Sm ω μ3 [81] [] := by rw [f3, f2, f1]; exact ((Sm.refl.ups rfl (Or.inl (by decide))).ups rfl (Or.inl (by decide))).ups rfl (Or.inl (by decide))
    have e3 : μ3 64 43 = σ 64 43 := by rw [s3.1 64 rfl]; exact e43
    refine noteR (d + f + 7) (by rw [r3, gnB_o (by omega) (by omega) (by omega), he]; exact c114) (by rw [e3]; exact hq) (fun ω1 s1 r1 => ?_)
    have row1 : ω1 81 = gnL (σ 64 43) m p (hvA s x g).2 := by
      rw [r1, e3, r3, he]; rfl
    have sm1 : Sm σ ω1 [73, 74, 81] [] := sm.trans ((s3.trans s1).mono (by decide) (by decide))
    have loop : ∀ (n : Nat) (i v : Int) (s' : HvS) (ω : Mem) (u6 : Option AV), 0 ≤ i → i + (n : Int) = σ 64 40 → HvI (σ 64 43) m p (σ 64 37) s' → bcF (ins s.1 x) ≤ bcF s'.1 → v = tot s'.2 - tot s.2 → Sm σ ω [73, 74, 81] [] → ω 81 = gnL (σ 64 43) m p s'.2 → (∀ ω', Sm σ ω' [73, 74, 81] [] → ω' 81 = gnL (σ 64 43) m p (hvF (wjv σ o m p) (hdm m p (σ 64 37)) (σ 88) (σ 89) (hvG (wjv σ o m p) (hdm m p (σ 64 37)) (σ 88) (σ 89) (σ 64 40).toNat f) x n i s').2 → Q (rI (tot (hvF (wjv σ o m p) (hdm m p (σ 64 37)) (σ 88) (σ 89) (hvG (wjv σ o m p) (hdm m p (σ 64 37)) (σ 88) (σ 89) (σ 64 40).toNat f) x n i s').2 - tot s.2)) ω') → Ev (d + f + 1 + 8) mR_haveFor 56 [vR 64, vI p, vI x, vI g, vI v, vI i, u6] [] ω Q := by
      intro n
      induction n with
      | zero =>
        intro i v s' ω u6 i0 i1 hI' hb hv sm he h
        have e40 : ω 64 40 = σ 64 40 := by rw [sm.1 64 rfl]
        refine bR_haveFor_56 ⟨⟨by omega, by omega⟩, by rw [e40]; exact ⟨by omega, by omega⟩, fun _ => ?_, fun z => absurd z (by rw [e40]; omega)⟩
        rw [hv]
        exact h ω sm he
      | succ n il =>
        intro i v s' ω u6 i0 i1 hI' hb hv sm he h
        have e40 : ω 64 40 = σ 64 40 := by rw [sm.1 64 rfl]
        have e38 : ω 64 38 = σ 64 38 := by rw [sm.1 64 rfl]
        have e37 : ω 64 37 = σ 64 37 := by rw [sm.1 64 rfl]
        have hs := hI'.1
        obtain ⟨-, k3, k4, -⟩ := m5 i i0 (by omega)
        have un : hvF (wjv σ o m p) (hdm m p (σ 64 37)) (σ 88) (σ 89) (hvG (wjv σ o m p) (hdm m p (σ 64 37)) (σ 88) (σ 89) (σ 64 40).toNat f) x (n + 1) i s' = hvF (wjv σ o m p) (hdm m p (σ 64 37)) (σ 88) (σ 89) (hvG (wjv σ o m p) (hdm m p (σ 64 37)) (σ 88) (σ 89) (σ 64 40).toNat f) x n (i + 1) (if σ 88 i = x ∧ bt (hdm m p (σ 64 37)) (σ 89 i) = true ∧ bt s'.1 (σ 89 i) = false then hvG (wjv σ o m p) (hdm m p (σ 64 37)) (σ 88) (σ 89) (σ 64 40).toNat f (σ 89 i) (hvA s' (σ 89 i) (Int.tdiv (wjv σ o m p s'.1 (σ 89 i)) 2)) else s') := rfl
        rw [un] at h
        have h48 : ω 81 (48 + p) = s'.1 := by rw [he]; exact hI'.2.2.1
        have row := gnL_W hW h0 (p := p) (by omega) n1 hI'.2.1
        have f48 := row.f48 hB (i := 8 * p + σ 89 i) (by omega) (by omega)
        have cell : bt s'.1 (σ 89 i) = false → ω 81 (8 * p + σ 89 i) = m (8 * p + σ 89 i) := fun hb => by rw [he]; exact hI'.2.2.2.1 _ k4.1 k4.2 hb
        have hbo := hb_bt (s := s'.1) (t := σ 89 i) ⟨by omega, by omega⟩ ⟨by omega, by omega⟩
        refine bR_haveFor_56 ⟨⟨by omega, by omega⟩, by rw [e40]; exact ⟨by omega, by omega⟩, fun z => absurd z (by rw [e40]; omega), fun _ => ⟨i0, (by omega), ?_⟩⟩
        rw [sm.1 88 rfl, sm.1 89 rfl, h48]
        refine ⟨⟨by omega, by omega⟩, ⟨by omega, by omega⟩, fun z => ?_, fun z => ⟨hp.1, (by omega), fun y => ?_, fun y => ⟨(by omega), (by omega), by rw [he]; exact ⟨by omega, by omega⟩, fun r => ?_, fun r => ?_⟩⟩⟩
        · rw [if_neg (fun g => z g.1)] at h
          exact il (i + 1) v s' ω _ (by omega) (by omega) hI' hb hv sm he h
        · rw [if_neg (fun g => by rw [hbo.mp y] at g; exact absurd g.2.2 (by decide))] at h
          exact il (i + 1) v s' ω _ (by omega) (by omega) hI' hb hv sm he h
        all_goals have nb : bt s'.1 (σ 89 i) = false := Bool.eq_false_iff.mpr (fun z => y (hbo.mpr z))
        all_goals rw [cell nb] at r
        · rw [if_neg (fun g => by have := (hhd _ k4.1 g.2.1).2; omega)] at h
          exact il (i + 1) v s' ω _ (by omega) (by omega) hI' hb hv sm he h
        · have yes := hhd2 _ k4.1 k4.2 r
          rw [if_pos ⟨z, yes, nb⟩] at h
          obtain ⟨a1, a2, a3⟩ := step s' i i0 (by omega) hI' yes nb
          obtain ⟨b1, b2, b3⟩ := okG f (σ 89 i) _ a1
          have wr := hw s'.1 (σ 89 i)
          have o72 : ω 81 72 = m 72 := by rw [he]; exact gnL_o h0 (T := σ 64 37) (by omega) (by omega) (by decide) hI'.2.1
          have o66 : ω 81 (66 + p) = m (66 + p) := by rw [he]; exact gnL_o h0 (T := σ 64 37) (by omega) (by omega) (by omega) hI'.2.1
          have o60 : ω 81 (60 + p) = m (60 + p) := by rw [he]; exact gnL_o h0 (T := σ 64 37) (by omega) (by omega) (by omega) hI'.2.1
          obtain ⟨c1, c2, c3, c4⟩ := row.ltB n1 (by omega : D ≤ 5000) (p := p) (by omega)
          rw [← he] at c1 c2
          refine joyR (hM'.sm' sm (by decide)) (hH.sm sm (by decide) rfl) (d + f + 1) (by rw [e38]; exact hp) (by rw [e37]; exact k4) c2 c1 (fun ω2 s2 => ?_)
          have ej : joyM ω o (ω 81) p (σ 89 i) = wjv σ o m p s'.1 (σ 89 i) := by
            unfold joyM wjv
            rw [o72, o66, o60, h48, sm.1 82 rfl, sm.1 83 rfl, sm.1 84 rfl, spv_cg (by rw [sm.1 64 rfl]) ⟨sm.1 85 rfl, sm.1 86 rfl, sm.1 87 rfl⟩]
          rw [ej]
          have a2' : bcF (ins s'.1 (σ 89 i)) = bcF s'.1 + 1 := a2
          refine ⟨⟨by omega, by omega⟩, ih d (σ 89 i) _ s' ω2 _ k4 a1 hI'.2.1 hI'.2.2.1 (by omega) (sm.trans (s2.mono (by decide) (by decide))) (by rw [s2.1 81 rfl]; exact he) (fun ω3 s4 r3 => ?_)⟩
          exact il (i + 1) _ _ ω3 _ (by omega) (by omega) b1 (by omega) (by omega) s4 r3 h
    have := loop (σ 64 40).toNat 0 g (hvA s x g) ω1 vU (by decide) (by omega) hI (Int.le_refl _) (by show g = tot s.2 + g - tot s.2; omega) sm1 row1 h
    exact this
