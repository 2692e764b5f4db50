/-! ===== ORDER, BY THE CLASS; CASE order ===== -/
theorem takeC {σ : Mem} (hM : MarkI σ) {w : Int → Int → Int} {hd lo : Int} (hhd8 : st8 hd) (hD : Dl σ w lo (σ 64 37)) (hw : ∀ s x, 0 ≤ w s x ∧ w s x ≤ 999) (hhd : ∀ u, 0 ≤ u → bt hd u = true → u < σ 64 37) (d : Nat) {s x : Int} (hs : 0 ≤ s ∧ s < 2 ^ (σ 64 37).toNat) (hlo : lo ≤ bcF s) (hx : 0 ≤ x ∧ x < σ 64 37) {τ : Mem} (sm : Sm σ τ [47, 48, 49] []) (cs : CsH τ hd (s, [])) {Q : RV → Mem → Prop} (hQ : ∀ τ', Sm σ τ' [47, 48, 49] [] → CsH τ' hd (hvO w hd (σ 88) (σ 89) (σ 64 40).toNat s x) → Q rV τ') : Cl (d + 17) mHa_take [aR 47, aI x] τ Q := by
  have n1 := hM.2.1.1
  have p2 := p2_le n1
  have m5 := hM.2.2.2.2.2.2
  have hct : ∀ i, 0 ≤ i → i < (((σ 64 40).toNat : Nat) : Int) → 0 ≤ σ 89 i ∧ σ 89 i < σ 64 37 := fun i i0 i1 => (m5 i i0 (by omega)).2.2.1
  obtain ⟨⟨a0, a1⟩, -⟩ := hvO_ok (w := w) (hd := hd) (cf := σ 88) (ct := σ 89) (C := (σ 64 40).toNat) n1 hw hct hhd hs hx
  have bT := bcF_T n1 hs
  have wr := hw s x
  have il := ins_lt (m := (σ 64 37).toNat) (s := s) (t := x) hs ⟨by omega, by omega⟩ (by omega)
  have hc6 : τ 47 6 = s := cs.1.2.2.1
  refine bHa_take_in ?_
  rw [hc6]
  refine Cl.mono (hD τ sm (d + 13) s x ⟨by omega, by omega⟩ hlo bT hx.1 hx.2) (fun r τ' hr => ?_)
  obtain ⟨rfl, rfl⟩ := hr
  refine addC cs (d + 15) (by show ((0 : Nat) : Int) < 8; decide) (fun τ3 s3 cs3 => ?_)
  have bp := bcF_sub (a := s) (b := ins s x) ⟨by omega, by omega⟩ ⟨by omega, by omega⟩ (fun u u0 u1 z => by rw [bt_ins ⟨by omega, by omega⟩ ⟨by omega, by omega⟩ u0, z]; rfl)
  exact bringC hM (w := w) (hd := hd) hhd8 hD (q := 1) (m := fkm s) (p := 0) (show 0 ≤ (0 : Int) ∧ (0 : Int) ≤ 60 by decide) (by decide) hw (fun u u0 hb => ⟨hhd u u0 hb, by
    have := hhd u u0 hb
    unfold fkm; rw [if_neg (by omega), if_pos (by omega)]; decide⟩) 8 (d + 4) x (hvA (s, []) x (w s x)) τ3 _ (by decide) ⟨by omega, by omega⟩ a0 (by show lo ≤ bcF (ins s x); omega) (Or.inl rfl) (sm.trans s3) cs3 (fun τ4 s4 cs4 => hQ τ4 s4 cs4)
abbrev foS : List Nat := [47, 48, 49, 51, 52, 53]
theorem cst10 : ∀ i : Fin 8, cst 10 (i.val : Int) = 10 ^ i.val := by decide +kernel
/-- what the class's rows keep of a set -/
abbrev tbO (τ : Mem) (K : Int) : O3 := (τ 51 K, τ 52 K, τ 53 K)
theorem tbO_iff {τ : Mem} {K : Int} {r : O3} (h : tbO τ K = r) : τ 51 K = r.1 ∧ τ 52 K = r.2.1 ∧ τ 53 K = r.2.2 := by
  subst h; exact ⟨rfl, rfl, rfl⟩
theorem findOrderC {σ : Mem} (hM : MarkI σ) {w : Int → Int → Int} {hd lo : Int} (hhd8 : st8 hd) (hDD : ∀ τ, Sm σ τ foS [] → Dl τ w lo (σ 64 37)) (hw : ∀ s x, 0 ≤ w s x ∧ w s x ≤ 999) (hhd : ∀ u, 0 ≤ u → bt hd u = true → u < σ 64 37) {L : Int → Int → Bool} (ok : HOK (hvO w hd (σ 88) (σ 89) (σ 64 40).toNat) L (σ 64 37)) (d : Nat) {K lf : Int} (hK : 0 ≤ K ∧ K < 2 ^ (σ 64 37).toNat) (hlo : lo ≤ bcF K) (hlf : 0 ≤ lf ∧ lf < 2 ^ (σ 64 37).toNat) (hL : ∀ t, 0 ≤ t → t < σ 64 37 → bt lf t = L K t) {τ : Mem} (sm : Sm σ τ foS []) (htb : ∀ t, 0 ≤ t → t < σ 64 37 → L K t = true → (hvO w hd (σ 88) (σ 89) (σ 64 40).toNat K t).1 ≠ K ∧ tbO τ (hvO w hd (σ 88) (σ 89) (σ 64 40).toNat K t).1 = ordF (hvO w hd (σ 88) (σ 89) (σ 64 40).toNat) L (σ 64 37).toNat 8 (hvO w hd (σ 88) (σ 89) (σ 64 40).toNat K t).1) {Q : RV → Mem → Prop}
    (hQ : ∀ τ', Sm σ τ' foS [] → (∀ j, j ≠ K → tbO τ' j = tbO τ j) → tbO τ' K = ordF (hvO w hd (σ 88) (σ 89) (σ 64 40).toNat) L (σ 64 37).toNat 8 K → Q rV τ') : Cl (d + 18) mSe_findOrder [aR 50, aI K, aI hd, aI lf] τ Q := by
  have n1 := hM.2.1.1
  have p2 := p2_le n1
  generalize hH : hvO w hd (σ 88) (σ 89) (σ 64 40).toNat = H at *
  generalize hf : ordF H L (σ 64 37).toNat 8 = f at *
  have f7 : ∀ s, (0 ≤ s ∧ s < 2 ^ (σ 64 37).toNat) → 1 ≤ bcF s → OR 7 (f s) := fun s hs hb => by
    rw [← hf, ordF_fuel n1 ok 7 s hs (by omega)]
    exact ordF_r n1 ok 7 s hs
  have fin : f K = ofin (oscn (H K) f (L K) (σ 64 37).toNat) := by
    have a : f K = ofin (oscn (H K) (ordF H L (σ 64 37).toNat 7) (L K) (σ 64 37).toNat) := by rw [← hf]; rfl
    rw [a, oscn_cg (f := f) (fun t t0 t1 l => ?_)]
    obtain ⟨-, h2, h3, -⟩ := ok K t hK t0 (by omega) l
    rw [← hf]
    have b0 := (bcF_r (s := K) ⟨by omega, by omega⟩).1
    exact (ordF_fuel n1 ok 7 _ h2 (by omega)).symm
  have sr := fun k (hk : k ≤ (σ 64 37).toNat) => oscn_r (H := H K) (f := f) (L := L K) (n := 7) (T := (σ 64 37).toNat) (by omega) (fun t t0 t1 l => by
    obtain ⟨-, h2, h3, h4⟩ := ok K t hK t0 (by omega) l
    have b0 := (bcF_r (s := K) ⟨by omega, by omega⟩).1
    exact ⟨f7 _ h2 (by omega), h4⟩) k hk
  generalize hsc : oscn (H K) f (L K) = sc at *
  have key : ∀ (k : Nat) (t : Int) (ω : Mem) (u5 u6 : Option AV), 0 ≤ t → t + (k : Int) = σ 64 37 → Sm σ ω foS [] → (∀ j, j ≠ K → tbO ω j = tbO τ j) → tbO ω K = (if lf = 0 then (0, 0, 0) else sc t.toNat) → Ev (d + 18) mSe_findOrder 32 [vR 50, vI K, vI hd, vI lf, vI t, u5, u6] [] ω Q := by
    intro k
    induction k with
    | zero =>
      intro t ω u5 u6 t0 t1 s1 he hk
      have e15 : ω 15 0 = σ 64 37 := by rw [s1.1 15 rfl]; exact hM.1.1
      have et : t = σ 64 37 := by omega
      refine bSe_findOrder_32 ⟨⟨by omega, by omega⟩, by rw [e15]; exact ⟨by omega, by omega⟩, fun _ => hQ ω s1 he ?_, fun z => absurd z (by rw [e15]; omega)⟩
      rw [hk, fin, et]
      have srT := sr (σ 64 37).toNat (Nat.le_refl _)
      by_cases z : lf = 0
      · rw [if_pos z]
        rcases srT with e | ⟨-, -, t, t1, l⟩
        · rw [e.1]; rfl
        · have := hL t t1.1 (by omega)
          rw [z, bt_0, l] at this; cases this
      · rw [if_neg z]
        rcases srT with e | e
        · exfalso
          refine z (bt_ext (s := lf) (t := 0) ⟨by omega, by omega⟩ (by decide) (fun u u0 u1 => ?_))
          rw [bt_0]
          by_cases c : u < σ 64 37
          · rw [hL u u0 c]; exact e.2 u u0 (by omega)
          · exact bt_hi hlf (by omega)
        · have := e.1.1.1
          unfold ofin
          rw [if_neg (by omega)]
    | succ k ik =>
      intro t ω u5 u6 t0 t1 s1 he hk
      have e15 : ω 15 0 = σ 64 37 := by rw [s1.1 15 rfl]; exact hM.1.1
      have sh := i_shr1 (s := lf) (t := t) ⟨by omega, by omega⟩ ⟨by omega, by omega⟩
      have scS := oscn_S (H := H K) (f := f) (L := L K) t0
      rw [hsc] at scS
      refine bSe_findOrder_32 ⟨⟨by omega, by omega⟩, by rw [e15]; exact ⟨by omega, by omega⟩, fun z => absurd z (by rw [e15]; omega), fun _ => ⟨rg_and _ _, fun z => ?_, fun z => ?_⟩⟩
      · have b : bt lf t = true := by
          by_cases c : bt lf t = true
          · exact c
          · rw [if_neg c] at sh; exact absurd sh z
        have l : L K t = true := by rw [← hL t t0 (by omega)]; exact b
        have nz : ¬ lf = 0 := fun z => by rw [z, bt_0] at b; cases b
        rw [if_neg nz] at hk
        obtain ⟨k1, k2, k3, k4⟩ := ok K t hK t0 (by omega) l
        obtain ⟨q1, q2⟩ := htb t t0 (by omega) l
        have b0 := (bcF_r (s := K) ⟨by omega, by omega⟩).1
        have fr := f7 _ k2 (by omega)
        refine bHa_begin_in ?_
        have s2 : Sm ω (ups (ups (ups (ups ω 47 4 0) 47 5 0) 47 6 K) 47 7 hd) [47] [] := (((Sm.refl.ups rfl (Or.inl (by decide))).ups rfl (Or.inl (by decide))).ups rfl (Or.inl (by decide))).ups rfl (Or.inl (by decide))
        have cs : CsH (ups (ups (ups (ups ω 47 4 0) 47 5 0) 47 6 K) 47 7 hd) hd (K, []) := by
          refine ⟨⟨?_, ?_, ?_, ?_⟩, True.intro⟩
          · rw [ups_fn (by omega), ups_fn (by omega), ups_fn (by omega), ups_hit]; rfl
          · rw [ups_fn (by omega), ups_fn (by omega), ups_hit]; rfl
          · rw [ups_fn (by omega), ups_hit]
          · rw [ups_hit]
        generalize (ups (ups (ups (ups ω 47 4 0) 47 5 0) 47 6 K) 47 7 hd) = ω2 at *
        have s12 : Sm σ ω2 foS [] := s1.trans (s2.mono (by decide) (by decide))
        have hM2 := hM.sm' s12 (by decide)
        have f64 : ω2 64 = σ 64 := s12.1 64 rfl
        have D2 := hDD ω2 s12
        rw [← f64] at D2
        refine takeC hM2 hhd8 D2 hw (by rw [f64]; exact hhd) d (by rw [f64]; exact hK) hlo (by rw [f64]; exact ⟨by omega, by omega⟩) Sm.refl cs (fun ω3 s3 cs3 => ?_)
        rw [f64, s12.1 88 rfl, s12.1 89 rfl, hH] at cs3
        obtain ⟨⟨c4, c5, c6, c7⟩, -⟩ := cs3
        have s13 : Sm σ ω3 foS [] := s12.trans (s3.mono (by decide) (by decide))
        have t3 : ∀ j, tbO ω3 j = tbO ω j := fun j => by
          show (ω3 51 j, ω3 52 j, ω3 53 j) = (ω 51 j, ω 52 j, ω 53 j)
          rw [s3.1 51 rfl, s3.1 52 rfl, s3.1 53 rfl, s2.1 51 rfl, s2.1 52 rfl, s2.1 53 rfl]
        have hk3 := tbO_iff (t3 K ▸ hk : tbO ω3 K = sc t.toNat)
        have hn3 := tbO_iff (((t3 (H K t).1).trans (he _ q1)).trans q2)
        have srt := sr t.toNat (by omega)
        have st : -1 ≤ (sc t.toNat).1 ∧ (sc t.toNat).1 ≤ 100000 ∧ 0 ≤ (sc t.toNat).2.1 ∧ (sc t.toNat).2.1 ≤ 8 := by
          rcases srt with e | e
          · rw [e.1]; decide
          · have := e.1.1; have := e.1.2.1; omega
        have cd : ocd (H K t) (f (H K t).1) t = (tot (H K t).2 + (f (H K t).1).1, (f (H K t).1).2.1 + 1, t * 10 ^ (f (H K t).1).2.1.toNat + (f (H K t).1).2.2) := rfl
        have fr' := fr
        obtain ⟨fa, fb, fc⟩ := fr
        -- not better
        have no : ¬ obt (sc t.toNat) (ocd (H K t) (f (H K t).1) t) → ∀ u5 u6, Ev (d + 18) mSe_findOrder 32 [vR 50, vI K, vI hd, vI lf, vI (t + 1), u5, u6] [] ω3 Q := by
          intro nb u5 u6
          refine ik (t + 1) ω3 u5 u6 (by omega) (by omega) s13 (fun j hj => (t3 j).trans (he j hj)) ?_
          rw [if_neg nz, scS, if_neg (fun z => nb z.2)]
          exact (t3 K).trans hk
        -- better
        have yes : obt (sc t.toNat) (ocd (H K t) (f (H K t).1) t) → Ev (d + 18) mSe_findOrder 140 [vR 50, vI K, vI hd, vI lf, vI t, vI (ω3 47 6), vI (ω3 47 5 + ω3 51 (ω3 47 6))] [] ω3 Q := by
          intro yb
          rw [c5, c6, hn3.1]
          have o1 : (ups (ups ω3 51 K (tot (H K t).2 + (f (H K t).1).1)) 52 K (ω3 52 (H K t).1 + 1)) 52 (H K t).1 = (f (H K t).1).2.1 := by
            rw [ups_fn q1, ups_ne (by decide)]; exact hn3.2.1
          refine bSe_findOrder_140 ⟨(by omega), (by omega), (by omega), (by omega), by rw [o1]; omega, by rw [o1]; omega, ?_⟩
          rw [o1, hn3.2.1, hn3.2.2]
          have c10 : cst 10 (f (H K t).1).2.1 = 10 ^ (f (H K t).1).2.1.toNat := by
            have := cst10 ⟨(f (H K t).1).2.1.toNat, by omega⟩
            rw [show (((f (H K t).1).2.1.toNat : Nat) : Int) = (f (H K t).1).2.1 from Int.toNat_of_nonneg fb.1] at this
            exact this
          rw [c10]
          refine ik (t + 1) _ _ _ (by omega) (by omega) (((s13.ups rfl (Or.inl (by decide))).ups rfl (Or.inl (by decide))).ups rfl (Or.inl (by decide))) (fun j hj => ?_) ?_
          · rw [← he j hj, ← t3 j]
            unfold tbO
            rw [ups_ne (by decide), ups_ne (by decide), ups_fn hj, ups_ne (by decide), ups_fn hj, ups_ne (by decide), ups_fn hj, ups_ne (by decide), ups_ne (by decide)]
          · rw [if_neg nz, scS, if_pos ⟨l, yb⟩, cd]
            unfold tbO
            rw [ups_ne (by decide), ups_ne (by decide), ups_hit, ups_ne (by decide), ups_hit, ups_hit]
        have ob : obt (sc t.toNat) (ocd (H K t) (f (H K t).1) t) ↔ ((sc t.toNat).1 < tot (H K t).2 + (f (H K t).1).1 ∨ (tot (H K t).2 + (f (H K t).1).1 = (sc t.toNat).1 ∧ (f (H K t).1).2.1 + 1 < (sc t.toNat).2.1)) := Iff.rfl
        refine ⟨by rw [c6]; omega, by rw [c6]; omega, (by omega), (by omega), by rw [c5, c6, hn3.1]; exact ⟨by omega, by omega⟩, by rw [hk3.1]; exact ⟨by omega, by omega⟩, fun y => yes (ob.mpr (Or.inl (by rw [c5, c6, hn3.1, hk3.1] at y; exact y))), fun y => ⟨fun y2 => no (fun z => ?_) _ _, fun y2 => ⟨by rw [c6, hn3.2.1]; exact ⟨by omega, by omega⟩, by rw [hk3.2.1]; exact ⟨by omega, by omega⟩, fun y3 => no (fun z => ?_) _ _, fun y3 => yes (ob.mpr (Or.inr ?_))⟩⟩⟩
        · rw [c5, c6, hn3.1, hk3.1] at y y2
          have := ob.mp z; omega
        · rw [c5, c6, hn3.1, hk3.1] at y y2
          rw [c6, hn3.2.1, hk3.2.1] at y3
          have := ob.mp z; omega
        · rw [c5, c6, hn3.1, hk3.1] at y y2
          rw [c6, hn3.2.1, hk3.2.1] at y3
          omega
      · have b : ¬ bt lf t = true := fun c => by rw [if_pos c, z] at sh; cases sh
        refine ik (t + 1) ω u5 u6 (by omega) (by omega) s1 he ?_
        rw [hk]
        by_cases q : lf = 0
        · rw [if_pos q, if_pos q]
        · rw [if_neg q, if_neg q, scS, if_neg (fun y => b (by rw [hL t t0 (by omega)]; exact y.1))]
  refine bSe_findOrder_in ⟨⟨by omega, by omega⟩, fun z => ⟨hK.1, (by omega), ?_⟩, fun z => ⟨hK.1, (by omega), ?_⟩⟩
  all_goals refine key (σ 64 37).toNat 0 _ _ _ (by decide) (by omega) (((sm.ups rfl (Or.inl (by decide))).ups rfl (Or.inl (by decide))).ups rfl (Or.inl (by decide))) (fun j hj => ?_) ?_
  · unfold tbO; rw [ups_ne (by decide), ups_ne (by decide), ups_fn hj, ups_ne (by decide), ups_fn hj, ups_ne (by decide), ups_fn hj, ups_ne (by decide), ups_ne (by decide)]
  · rw [if_neg z, ← hsc]
    unfold tbO
    rw [ups_ne (by decide), ups_ne (by decide), ups_hit, ups_ne (by decide), ups_hit, ups_hit]
    rfl
  · unfold tbO; rw [ups_ne (by decide), ups_ne (by decide), ups_fn hj, ups_ne (by decide), ups_fn hj, ups_ne (by decide), ups_fn hj, ups_ne (by decide), ups_ne (by decide)]
  · rw [if_pos z]
    unfold tbO
    rw [ups_ne (by decide), ups_ne (by decide), ups_hit, ups_ne (by decide), ups_hit, ups_hit]
theorem findOrdersC {σ : Mem} (hM : MarkI σ) {o : Option (List Cla)} {m : Int → Int} {p th : Int} (hhad : 0 ≤ m (48 + p) ∧ m (48 + p) < 2 ^ (σ 64 37).toNat) (hth : 0 ≤ th ∧ th < 2 ^ (σ 64 37).toNat) (hDD : ∀ τ, Sm σ τ foS [] → Dl τ (wjv σ o m p) (bcF (m (48 + p))) (σ 64 37)) {T : Int} (hTT : T = σ 64 37) (d : Nat) {Q : RV → Mem → Prop}
    (hQ : ∀ τ', Sm σ τ' foS [] → tbO τ' (m (48 + p)) = ordF (hvR σ o m p) (lvR σ m p th) (σ 64 37).toNat 8 (m (48 + p)) → Q rV τ') : Cl (d + 19) mSe_findOrders [aR 50, aI (m (48 + p)), aI (hdm m p T), aI th] σ Q := by
  subst hTT
  have n1 := hM.2.1.1
  have p2 := p2_le n1
  have m1 := hM.1.1
  have sh := shl_T n1
  obtain ⟨h1, h2, h3⟩ := hdm_r (m := m) (p := p) n1
  have m5 := hM.2.2.2.2.2.2
  have hct : ∀ i, 0 ≤ i → i < (((σ 64 40).toNat : Nat) : Int) → 0 ≤ σ 89 i ∧ σ 89 i < σ 64 37 := fun i i0 i1 => (m5 i i0 (by omega)).2.2.1
  have hhd : ∀ u, 0 ≤ u → bt (hdm m p (σ 64 37)) u = true → u < σ 64 37 := fun u u0 hb => ((h3 u u0).mp hb).1
  have ok := hok hM o m p th
  unfold hvR lvR at ok hQ
  have hw : ∀ s x, 0 ≤ wjv σ o m p s x ∧ wjv σ o m p s x ≤ 999 := fun s x => wjv_r hM o m p s x
  refine bSe_findOrders_in ?_
  rw [m1]
  show Ev (d + 19) mSe_findOrders 16 [vR 50, vI (m (48 + p)), vI (hdm m p (σ 64 37)), vI th, vI (dif (hdm m p (σ 64 37)) (m (48 + p))), vI (i_shl 1 (σ 64 37) - 1)] [] σ Q
  generalize hhe : m (48 + p) = had at *
  generalize hhv : hdm m p (σ 64 37) = hd at *
  have hop := dif_lt (m := (σ 64 37).toNat) (s := hd) (t := had) h1 ⟨by omega, by omega⟩ (by omega)
  have bop : ∀ u, 0 ≤ u → u < 31 → bt (dif hd had) u = (bt hd u && !bt had u) := fun u u0 u1 => bt_dif ⟨by omega, by omega⟩ ⟨by omega, by omega⟩ ⟨by omega, by omega⟩
  generalize hoe : dif hd had = op at *
  have hor := or_lt (s := had) (t := op) hhad hop (by omega)
  have bor : ∀ u, bt (i_or had op) u = (bt had u || bt op u) := fun u => bt_or ⟨by omega, by omega⟩ ⟨by omega, by omega⟩
  have V : ∀ K, 0 ≤ K → K < 2 ^ (σ 64 37).toNat → ((i_and K had = had ∧ i_and K (i_xor (i_or had op) (-1)) = 0) ↔ ∀ u, 0 ≤ u → u < 8 → (bt had u = true → bt K u = true) ∧ (bt K u = true → bt had u = true ∨ bt op u = true)) := by
    intro K k0 k1
    have al := and_lt (m := (σ 64 37).toNat) (s := K) (t := had) ⟨by omega, by omega⟩ ⟨by omega, by omega⟩ (by omega)
    have dl := dif_lt (m := (σ 64 37).toNat) (s := K) (t := i_or had op) ⟨by omega, by omega⟩ ⟨by omega, by omega⟩ (by omega)
    have ab : ∀ u, bt (i_and K had) u = (bt K u && bt had u) := fun u => bt_and ⟨by omega, by omega⟩ ⟨by omega, by omega⟩
    have db : ∀ u, 0 ≤ u → u < 31 → bt (dif K (i_or had op)) u = (bt K u && !(bt had u || bt op u)) := fun u u0 u1 => by rw [bt_dif ⟨by omega, by omega⟩ ⟨by omega, by omega⟩ ⟨by omega, by omega⟩, bor]
    constructor
    · intro ⟨a, b⟩ u u0 u1
      have a' := ab u
      have b' := db u u0 (by omega)
      rw [a] at a'
      rw [show dif K (i_or had op) = 0 from b, bt_0] at b'
      constructor
      · intro z; rw [z] at a'; cases c : bt K u; (rw [c] at a'; cases a'); rfl
      · intro z
        rw [z, Bool.true_and] at b'
        cases c : bt had u
        · cases e : bt op u
          · rw [c, e] at b'; cases b'
          · exact Or.inr rfl
        · exact Or.inl rfl
    · intro h
      refine ⟨bt_ext ⟨by omega, by omega⟩ ⟨by omega, by omega⟩ (fun u u0 u1 => ?_), bt_ext (s := dif K (i_or had op)) (t := 0) ⟨by omega, by omega⟩ (by decide) (fun u u0 u1 => ?_)⟩
      · rw [ab]
        cases c : bt had u
        · exact Bool.and_false _
        · rw [(h u u0 u1).1 c]; rfl
      · rw [db u u0 (by omega), bt_0]
        cases c : bt K u
        · rfl
        · rcases (h u u0 u1).2 c with z | z <;> rw [z]
          · rfl
          · rw [Bool.or_true]; rfl
  generalize hHe : hvO (wjv σ o m p) hd (σ 88) (σ 89) (σ 64 40).toNat = H at *
  generalize hLe : (fun s t : Int => (bt hd t && bt th t) && !bt s t) = L at *
  have Lb : ∀ s t, L s t = ((bt hd t && bt th t) && !bt s t) := fun s t => by rw [← hLe]
  generalize hfe : ordF H L (σ 64 37).toNat 8 = f at *
  have down : ∀ (k : Nat) (τ : Mem), (k : Int) ≤ i_shl 1 (σ 64 37) → Sm σ τ foS [] → (∀ K, (k : Int) ≤ K → K < 2 ^ (σ 64 37).toNat → (∀ u, 0 ≤ u → u < 8 → (bt had u = true → bt K u = true) ∧ (bt K u = true → bt had u = true ∨ bt op u = true)) → tbO τ K = f K) → Ev (d + 19) mSe_findOrders 16 [vR 50, vI had, vI hd, vI th, vI op, vI ((k : Int) - 1)] [] τ Q := by
    intro k
    induction k with
    | zero =>
      intro τ hk sm tb
      refine bSe_findOrders_16 ⟨by decide, fun _ => hQ τ sm (tb had (by omega) hhad.2 (fun u u0 u1 => ⟨id, Or.inl⟩)), fun z => absurd z (by decide)⟩
    | succ k ik =>
      intro τ hk sm tb
      have e : (((k + 1 : Nat) : Int) - 1) = (k : Int) := by omega
      have e2 : (k : Int) + (-1) = (k : Int) - 1 := by omega
      rw [e]
      have v := V (k : Int) (by omega) (by omega)
      have skip : ¬ (i_and (k : Int) had = had ∧ i_and (k : Int) (i_xor (i_or had op) (-1)) = 0) → Ev (d + 19) mSe_findOrders 16 [vR 50, vI had, vI hd, vI th, vI op, vI ((k : Int) + (-1))] [] τ Q := by
        intro z
        rw [e2]
        refine ik τ (by omega) sm (fun K k0 k1 y => ?_)
        by_cases c : K = (k : Int)
        · rw [c] at y; exact absurd (v.mpr y) z
        · exact tb K (by omega) k1 y
      refine bSe_findOrders_16 ⟨⟨by omega, by omega⟩, fun z => absurd z (by omega), fun _ => ⟨rg_and _ _, ⟨by omega, by omega⟩, fun z => skip (fun y => z y.1), fun z => ⟨rg_and _ _, fun y => skip (fun q => y q.2), fun y => ?_⟩⟩⟩
      have vk := v.mp ⟨z, y⟩
      have hand := and_lt (m := (σ 64 37).toNat) (s := op) (t := th) hop ⟨by omega, by omega⟩ (by omega)
      show Cl (d + 18) mSe_findOrder [aR 50, aI (k : Int), aI hd, aI (dif (i_and op th) (k : Int))] τ _
      have hlf := dif_lt (m := (σ 64 37).toNat) (s := i_and op th) (t := (k : Int)) hand.1 ⟨by omega, by omega⟩ (by omega)
      have sub : bcF had ≤ bcF (k : Int) := bcF_sub ⟨by omega, by omega⟩ ⟨by omega, by omega⟩ (fun u u0 u1 => (vk u u0 u1).1)
      have hMt := hM.sm' sm (by decide)
      have f64 : τ 64 = σ 64 := sm.1 64 rfl
      refine findOrderC (σ := σ) hM h2 hDD hw hhd (L := L) (by rw [hHe]; exact ok) d (K := (k : Int)) ⟨by omega, by omega⟩ sub hlf (fun t t0 t1 => ?_) sm (fun t t0 t1 l => ?_) (fun τ' s' o' tk => ?_)
      · rw [bt_dif ⟨by omega, by omega⟩ ⟨by omega, by omega⟩ ⟨by omega, by omega⟩, bt_and ⟨by omega, by omega⟩ ⟨by omega, by omega⟩, bop t t0 (by omega), Lb]
        cases c : bt had t
        · rw [Bool.not_false, Bool.and_true]
        · rw [(vk t t0 (by omega)).1 c]
          simp
      · rw [hHe, hfe]
        rw [Lb, Bool.and_eq_true, Bool.and_eq_true, Bool.not_eq_true'] at l
        obtain ⟨-, w1, -, w2⟩ := hvO_ok (w := wjv σ o m p) (hd := hd) (cf := σ 88) (ct := σ 89) (C := (σ 64 40).toNat) n1 hw hct hhd (s := (k : Int)) ⟨by omega, by omega⟩ (x := t) ⟨by omega, by omega⟩
        have w3 := (hvO_bc (w := wjv σ o m p) (hd := hd) (cf := σ 88) (ct := σ 89) (C := (σ 64 40).toNat) n1 hw hct hhd (s := (k : Int)) ⟨by omega, by omega⟩ (x := t) ⟨by omega, by omega⟩ l.2).2
        rw [hHe] at w1 w2 w3
        refine ⟨(by omega), tb _ (by omega) w1.2 (fun u u0 u1 => ⟨fun q => (w2 u u0).1 (Or.inl ((vk u u0 u1).1 q)), fun q => ?_⟩)⟩
        have inh : bt hd u = true → bt had u = true ∨ bt op u = true := by
          intro q
          cases c : bt had u
          · right; rw [bop u u0 (by omega), q, c]; rfl
          · exact Or.inl rfl
        rcases (w2 u u0).2 q with (q | q) | q
        · exact (vk u u0 u1).2 q
        · rw [q]; rw [q] at inh; exact inh l.1.1
        · exact inh q
      · rw [hHe, hfe] at tk
        show Ev (d + 19) mSe_findOrders 16 [vR 50, vI had, vI hd, vI th, vI op, vI ((k : Int) + (-1))] [] τ' Q
        rw [e2]
        refine ik τ' (by omega) s' (fun K k0 k1 y => ?_)
        by_cases c : K = (k : Int)
        · rw [c]; exact tk
        · rw [o' K c]; exact tb K (by omega) k1 y
  have := down (i_shl 1 (σ 64 37)).toNat σ (by omega) Sm.refl (fun K k0 k1 => absurd k1 (by omega))
  rw [Int.toNat_of_nonneg (by omega)] at this
  exact this
/-- the eye's table serves as it stands -/
theorem Dl_of {σ τ : Mem} (hM : MarkI σ) {o : Option (List Cla)} {T P D B : Int} {m : Int → Int} (hW : RowW T P D B m) (hT : T = σ 64 37) (hD : D ≤ 4000) {p : Int} (hp : 0 ≤ p ∧ p < σ 64 38) {S : List Nat} (sm : Sm σ τ S []) (hS : ∀ a ∈ ([64, 15, 16, 82, 83, 84, 85, 86, 87, 88, 89] : List Nat), S.contains a = false) (tb : ∀ h x, bcF (m (48 + p)) ≤ h → h ≤ min (σ 64 37) (bcF (m (48 + p)) + σ 64 37) → 0 ≤ x → x < σ 64 37 → τ 46 (h * 8 + x) = whF o (ltr (σ 82 x) (σ 83 x) (m 72 + 0) (min 99 (m (66 + p) + 0)) (m (60 + p)) (if σ 84 p = x then 1 else 0) h)) : Dl τ (wjv σ o m p) (bcF (m (48 + p))) (σ 64 37) := by
  have n1 := hM.2.1.1
  have n2 := hM.2.1.2.1
  obtain ⟨b1, b2, b3, b4⟩ := hW.ltB (by rw [hT]; exact n1) (by omega : D ≤ 5000) (p := p) (by omega)
  have bb := bcF_r b2
  have f64 : τ 64 = σ 64 := sm.1 64 (hS 64 (by decide))
  have hMt := hM.sm' sm hS
  intro τ' s' d' s y hs8 lo hi y0 y1
  rw [f64] at y1
  have t := tb (bcF s) y lo (by omega) y0 y1
  rw [Int.add_zero, Int.add_zero, show min 99 (m (66 + p)) = m (66 + p) by omega] at t
  have t3 : τ' 46 (bcF s * 8 + y) = whF o (ltr (σ 82 y) (σ 83 y) (m 72) (m (66 + p)) (m (60 + p)) (if σ 84 p = y then 1 else 0) (bcF s)) := by
    rw [s'.1 46 rfl]; exact t
  refine delightC (hMt.sm' s' (by decide)) d' ⟨by omega, by omega⟩ hs8 t3 (whF_r _ _) ⟨?_, rfl⟩
  unfold wjv
  rw [spv_cg (σ := σ) (by rw [s'.1 64 rfl, f64]) ⟨by rw [s'.1 85 rfl, sm.1 85 (hS 85 (by decide))], by rw [s'.1 86 rfl, sm.1 86 (hS 86 (by decide))], by rw [s'.1 87 rfl, sm.1 87 (hS 87 (by decide))]⟩]
theorem layOrderR {σ : Mem} (hM : MarkI σ) {o : Option (List Cla)} (hH : Held σ o) (hq : σ 64 43 = 0 ∨ σ 64 43 = 1) {D : Int} (hW : RowW (σ 64 37) (σ 64 38) D 47952 (σ 81)) (hD : D ≤ 4000) (h0 : 0 ≤ σ 81 114 ∧ σ 81 114 ≤ 60) (d : Nat) {p th : Int} (hp : 0 ≤ p ∧ p < σ 64 38) (hth : st8 th) {Q : RV → Mem → Prop}
    (hQ : ∀ τ, Sm σ τ [64, 73, 74, 81, 92] [43, 48, 49, 50] → τ 81 = σ 81 → τ 64 43 = σ 64 43 → rgO τ = ordF (hvR σ o (σ 81) p) (lvR σ (σ 81) p th) (σ 64 37).toNat 8 (σ 81 (48 + p)) → Q rV τ) : Cl (d + 35) mR_layOrder [aR 64, aI p, aI th] σ Q := by
  have n1 := hM.2.1.1
  have n2 := hM.2.1.2.1
  have had0 := hW.1 (48 + p) (by omega) (by omega)
  have had1 := hW.2.1 p hp.1 (by omega)
  have p2 := p2_le n1
  have b0 := (bcF_r (s := σ 81 (48 + p)) ⟨by omega, by omega⟩).1
  refine bR_layOrder_in ⟨(by omega), (by omega), ?_⟩
  have s1 : Sm σ (ups (ups (ups (ups σ 64 43 1) 64 48 (-1)) 64 49 0) 64 50 0) [64] [43, 48, 49, 50] := (((Sm.refl.ups rfl (Or.inr rfl)).ups rfl (Or.inr rfl)).ups rfl (Or.inr rfl)).ups rfl (Or.inr rfl)
  have v43 : (ups (ups (ups (ups σ 64 43 1) 64 48 (-1)) 64 49 0) 64 50 0) 64 43 = 1 := by rw [ups_fn (by decide), ups_fn (by decide), ups_fn (by decide), ups_hit]
  have vr : rgO (ups (ups (ups (ups σ 64 43 1) 64 48 (-1)) 64 49 0) 64 50 0) = (0, 0, -1) := by
    unfold rgO
    rw [ups_hit, ups_fn (by decide), ups_hit, ups_fn (by decide), ups_fn (by decide), ups_hit]
  generalize (ups (ups (ups (ups σ 64 43 1) 64 48 (-1)) 64 49 0) 64 50 0) = σ1 at *
  have sk : SmMk σ σ1 := SmMk.of s1 (by decide) (by decide)
  have e81 : σ1 81 = σ 81 := s1.1 81 rfl
  have hM1 : MarkI σ1 := hM.sm s1 (by decide) (by decide)
  have rw0 : RwO (σ1 64 37) (σ 64 38) D (σ 81) p (σ1 81) := by
    rw [e81, sk.2.1]
    exact ⟨hW, h0, rfl, rfl, rfl, fun _ _ _ _ => rfl⟩
  rw [show d + 34 = (d + 4) + 8 + 22 from rfl]
  refine tryO hM1 (hH.sm s1 (by decide) rfl) v43 (P := σ 64 38) (D := D) sk.2.2.1.symm hD (m0 := σ 81) (p := p) (by rw [sk.2.2.1]; exact hp) hth 8 (d + 4) 0 0 σ1 _ (by decide) (by rw [e81]; omega) (by decide) Sm.refl rw0 (by rw [vr]; exact ⟨by decide, by decide, by decide⟩) (fun τ s' t81 _ tr => ?_)
  have hvE : hvR σ1 o (σ 81) p = hvR σ o (σ 81) p := by
    unfold hvR
    rw [wjv_cg sk, sk.2.1, sk.1.2.2.2.2.2.2.1, sk.1.2.2.2.2.2.2.2, sk.2.2.2.2]
  have lvE : lvR σ1 (σ 81) p th = lvR σ (σ 81) p th := by
    unfold lvR
    rw [sk.2.1]
  rw [vr, e81, hvE, lvE, sk.2.1] at tr
  have orr := ordF_r n1 (hok hM o (σ 81) p th) 8 (σ 81 (48 + p)) ⟨had0, had1⟩
  generalize ordF (hvR σ o (σ 81) p) (lvR σ (σ 81) p th) (σ 64 37).toNat 8 (σ 81 (48 + p)) = r at *
  have tr2 : rgO τ = (σ 81 (54 + p) + r.1, r.2.1, r.2.2) := by
    rw [tr]
    unfold oup opre
    rw [if_pos (Or.inl rfl), Int.zero_mul, Int.zero_add, Int.zero_add]
  have x1 : τ 64 50 = σ 81 (54 + p) + r.1 := congrArg (fun z : O3 => z.1) tr2
  have x2 : τ 64 49 = r.2.1 := congrArg (fun z : O3 => z.2.1) tr2
  have x3 : τ 64 48 = r.2.2 := congrArg (fun z : O3 => z.2.2) tr2
  have sA : Sm σ τ [64, 73, 74, 81, 92] [43, 48, 49, 50] := (s1.mono (by decide) (by decide)).trans (s'.mono (by decide) (by decide))
  refine ⟨hq, hQ _ ((sA.ups rfl (Or.inr rfl)).ups rfl (Or.inr rfl)) ?_ ?_ ?_⟩
  · rw [ups_ne (by decide), ups_ne (by decide), t81]; exact e81
  · rw [ups_hit]
  · unfold rgO
    rw [ups_fn (by decide), ups_hit, ups_fn (by decide), ups_fn (by decide), ups_fn (by decide), ups_fn (by decide), x1, x2, x3]
    refine Prod.ext ?_ rfl
    show σ 81 (54 + p) + r.1 - σ 81 (54 + p) = r.1
    omega
theorem c_order : ∀ (a b c : Int) (σ : Mem), Inv σ → rg a → rg b → rg c → Pair mF_order mR_order [aI a, aI b, aI c] σ := by
  intro p th v σ hI ha hb hc
  have hM := hI.1.2.1
  obtain ⟨o, hH⟩ := hI.heldO
  obtain ⟨⟨m1, m2, m3, m4⟩, ⟨n1, n2, n3, n4⟩, -⟩ := hI.1.2.1
  have q0 := hI.2.2.2.2.2.1
  have cm : CM σ (σ 38) (σ 81) := hI.relN.cm
  have sh := shl_T n1
  have p2 := p2_le n1
  by_cases hp : 0 ≤ p ∧ p < σ 64 38
  · by_cases ht : 0 ≤ th ∧ th ≤ i_shl 1 (σ 64 37) - 1
    · by_cases hv : 0 ≤ v ∧ v ≤ 1
      · have had0 := cm.2.1.1 (48 + p) (by omega) (by omega)
        have had1 := cm.2.1.2.1 p hp.1 (by omega)
        have hS := cm.1
        have e3 : σ 38 (3 + p * 4 + 3) = σ 81 (48 + p) := Cor.eq hS (Cor.had (by omega))
        have orr := ordF_r n1 (hok hM o (σ 81) p th) 8 (σ 81 (48 + p)) ⟨had0, had1⟩
        have p10 : (10 : Int) ^ (ordF (hvR σ o (σ 81) p) (lvR σ (σ 81) p th) (σ 64 37).toNat 8 (σ 81 (48 + p))).2.1.toNat ≤ 10 ^ 8 := pow_mono (by have := orr.2.1; omega)
        have p108 : (10 : Int) ^ 8 = 100000000 := by decide
        refine pair_v hI (v := if v = 1 then (ordF (hvR σ o (σ 81) p) (lvR σ (σ 81) p th) (σ 64 37).toNat 8 (σ 81 (48 + p))).1 else if (ordF (hvR σ o (σ 81) p) (lvR σ (σ 81) p th) (σ 64 37).toNat 8 (σ 81 (48 + p))).2.1 ≠ 0 then (ordF (hvR σ o (σ 81) p) (lvR σ (σ 81) p th) (σ 64 37).toNat 8 (σ 81 (48 + p))).2.2 else -1) ?_ ?_ ?_
        all_goals generalize hr : ordF (hvR σ o (σ 81) p) (lvR σ (σ 81) p th) (σ 64 37).toNat 8 (σ 81 (48 + p)) = r at *
        all_goals obtain ⟨o1, o2, o3⟩ := orr
        · split
          · exact ⟨by omega, by omega⟩
          · split
            · exact ⟨by omega, by omega⟩
            · decide
        · refine bF_order_in (d := 979) ⟨ha, ⟨by omega, by omega⟩, fun _ => ⟨hb, fun z => absurd z (by omega), fun _ => ⟨by rw [m1]; exact ⟨by omega, by omega⟩, fun z => absurd z (by rw [m1]; omega), fun _ => ⟨hc, fun z => absurd z (by omega), fun _ => ⟨fun _ => ⟨(by omega), (by omega), ?_⟩, fun z => absurd z (by omega)⟩⟩⟩⟩, fun z => absurd (by omega) z⟩
          rw [m1, e3]
          refine lookS37 hM hH hS cm.2.1 rfl (by decide) 993 hp (k := 0) (by decide) (j := σ 64 37) (by omega) (fun τ1 s1 tb => ?_)
          have hM1 := hM.sm' s1 (by decide)
          have g64 : τ1 64 = σ 64 := s1.1 64 rfl
          refine heldBy37 hM1 (by rw [s1.1 38 rfl]; exact hS) cm.2.1 (Int.le_refl _) 995 (p := p) (by omega) ?_
          rw [g64]
          have sk : SmMk σ τ1 := SmMk.of s1 (by decide) (by decide)
          have hh := hdm_r (m := σ 81) (p := p) n1
          refine findOrdersC (σ := τ1) hM1 (o := o) (m := σ 81) (p := p) (th := th) (by rw [g64]; exact ⟨had0, had1⟩) (by rw [g64]; omega) (fun τ2 s2 => by
            rw [g64, wjv_cg sk]
            exact Dl_of hM cm.2.1 rfl (by decide) hp (S := [28, 45, 46] ++ foS) ((s1.mono (by decide) (by decide)).trans (s2.mono (by decide) (by decide))) (by decide) (fun h x a1 a2 a3 a4 => by rw [s2.1 46 rfl]; exact tb h x a1 a2 a3 a4)) (T := σ 64 37) (by rw [g64]) 979 (fun τ2 s2 t2 => ?_)
          · have hvE : hvR τ1 o (σ 81) p = hvR σ o (σ 81) p := by
              unfold hvR
              rw [wjv_cg sk, sk.2.1, sk.1.2.2.2.2.2.2.1, sk.1.2.2.2.2.2.2.2, sk.2.2.2.2]
            have lvE : lvR τ1 (σ 81) p th = lvR σ (σ 81) p th := by unfold lvR; rw [sk.2.1]
            rw [hvE, lvE, sk.2.1, hr] at t2
            obtain ⟨y1, y2, y3⟩ := tbO_iff t2
            have sA : Sm σ τ2 scrSL scrSJ := (s1.mono (by decide) (by decide)).trans (s2.mono (by decide) (by decide))
            rw [y1, y2, y3]
            exact ⟨fun z => ⟨(by omega), (by omega), ⟨by omega, by omega⟩, fun y => ⟨by rw [if_neg z, if_pos y], sA⟩, fun y => ⟨by rw [if_neg z, if_neg (fun q => q y)], sA⟩⟩, fun z => ⟨(by omega), (by omega), by rw [if_pos z], sA⟩⟩
        · intro τ hI2 hs
          have e64 := hs.1 64
          have hM2 := hI2.1.2.1
          have e81 : τ 81 = σ 81 := hs.1 81 rfl
          have sk : SmMk σ τ := SmMk.of hs (by decide) (by decide)
          have e43 : τ 64 43 = 0 := hI2.2.2.2.2.2.1
          refine bR_order_in (d := 963) ⟨ha, hI2.mOK, fun _ => ⟨hb, by rw [sk.2.1]; exact ⟨by omega, by omega⟩, fun _ => ⟨hc, fun _ => ?_, fun z => absurd hv z⟩, fun z => absurd (by rw [sk.2.1]; exact ht) z⟩, fun z => absurd (by rw [sk.2.2.1]; exact hp) z⟩
          have cm2 : CM τ (τ 38) (τ 81) := hI2.relN.cm
          refine layOrderR hM2 (hH.sm hs (by decide) rfl) (Or.inl e43) (D := 999) cm2.2.1 (by decide) cm2.2.2.1 963 (p := p) (by rw [sk.2.2.1]; exact hp) ⟨by omega, by omega⟩ (fun τ2 s2 r81 r43 tr => ?_)
          have hvE : hvR τ o (τ 81) p = hvR σ o (σ 81) p := by
            unfold hvR
            rw [e81, wjv_cg sk, sk.2.1, sk.1.2.2.2.2.2.2.1, sk.1.2.2.2.2.2.2.2, sk.2.2.2.2]
          have lvE : lvR τ (τ 81) p th = lvR σ (σ 81) p th := by unfold lvR; rw [e81, sk.2.1]
          rw [hvE, lvE, sk.2.1, e81, hr] at tr
          have x1 : τ2 64 50 = r.1 := congrArg (fun z : O3 => z.1) tr
          have x2 : τ2 64 49 = r.2.1 := congrArg (fun z : O3 => z.2.1) tr
          have x3 : τ2 64 48 = r.2.2 := congrArg (fun z : O3 => z.2.2) tr
          have sA : Sm τ τ2 (81 :: scrSL) scrSJ := (s2.drop r43).mono (by decide) (by decide)
          have g1 : ∀ i, 0 ≤ i → i < 355 → τ2 81 i = τ 81 i := fun i _ _ => by rw [r81]
          have g2 : RG (τ2 81) := by rw [r81]; exact cm2.2.2.2.2.2
          rw [x1, x2, x3]
          exact ⟨fun z => ⟨⟨by omega, by omega⟩, fun y => ⟨by rw [if_neg z, if_pos y], sA, g1, g2⟩, fun y => ⟨by rw [if_neg z, if_neg (fun q => q y)], sA, g1, g2⟩⟩, fun z => ⟨by rw [if_pos z], sA, g1, g2⟩⟩
      · refine pair_q (v := -1000000) hI (by decide) ?_ ?_
        · exact bF_order_in (d := 979) ⟨ha, ⟨by omega, by omega⟩, fun _ => ⟨hb, fun z => absurd z (by omega), fun _ => ⟨by rw [m1]; exact ⟨by omega, by omega⟩, fun z => absurd z (by rw [m1]; omega), fun _ => ⟨hc, fun _ => ⟨rfl, rfl⟩, fun z => ⟨fun y => absurd ⟨z, y⟩ hv, fun _ => ⟨rfl, rfl⟩⟩⟩⟩⟩, fun z => absurd (by omega) z⟩
        · exact bR_order_in (d := 963) ⟨ha, hI.mOK, fun _ => ⟨hb, ⟨by omega, by omega⟩, fun _ => ⟨hc, fun z => absurd z hv, fun _ => ⟨rfl, rfl⟩⟩, fun z => absurd ht z⟩, fun z => absurd hp z⟩
    · refine pair_q (v := -1000000) hI (by decide) ?_ ?_
      · exact bF_order_in (d := 979) ⟨ha, ⟨by omega, by omega⟩, fun _ => ⟨hb, fun _ => ⟨rfl, rfl⟩, fun z => ⟨by rw [m1]; exact ⟨by omega, by omega⟩, fun _ => ⟨rfl, rfl⟩, fun y => absurd ⟨z, by rw [m1] at y; exact y⟩ ht⟩⟩, fun z => absurd (by omega) z⟩
      · exact bR_order_in (d := 963) ⟨ha, hI.mOK, fun _ => ⟨hb, ⟨by omega, by omega⟩, fun z => absurd z ht, fun _ => ⟨rfl, rfl⟩⟩, fun z => absurd hp z⟩
  · refine pair_q (v := -1000000) hI (by decide) ?_ ?_
    · exact bF_order_in (d := 979) ⟨ha, ⟨by omega, by omega⟩, fun z => absurd (by omega) hp, fun _ => ⟨rfl, rfl⟩⟩
    · exact bR_order_in (d := 963) ⟨ha, hI.mOK, fun z => absurd z hp, fun _ => ⟨rfl, rfl⟩⟩
