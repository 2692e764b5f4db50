theorem lkp_mem : ∀ (s : List (Nat × Ent)) {pc : Nat} {e : Ent}, lkp s pc = some e → (pc, e) ∈ s
  | [], _, _, h => by cases h
  | (q, e') :: r, pc, e, h => by
    unfold lkp at h
    cases hc : Nat.beq q pc with
    | true =>
      rw [hc] at h
      rw [Nat.beq_eq] at hc
      subst hc
      cases h
      exact List.mem_cons_self
    | false => rw [hc] at h; exact List.mem_cons_of_mem _ (lkp_mem r h)
theorem lks_mem : ∀ (l : List (Nat × List (Nat × Ent))) {pc : Nat} {e : Ent}, lks l pc = some e → ∃ s ∈ l, (pc, e) ∈ s.2
  | [], _, _, h => by cases h
  | (u, s) :: r, pc, e, h => by
    unfold lks at h
    cases hc : Nat.ble pc u with
    | true => rw [hc] at h; exact ⟨_, List.mem_cons_self, lkp_mem s h⟩
    | false =>
      rw [hc] at h
      obtain ⟨s', h1, h2⟩ := lks_mem r h
      exact ⟨s', List.mem_cons_of_mem _ h1, h2⟩
theorem entry_ok {M pc : Nat} {e : Ent} (h : lks (mcode M) pc = some e) : decode (byt M) pc = .ok (e.1, e.2.1) ∧ chkE (own M) (mtb M).2.2.1 pc e = true := by
  obtain ⟨s, h1, h2⟩ := lks_mem _ h
  have h3 := List.all_eq_true.mp (List.all_eq_true.mp (ck_all M) s h1) _ h2
  rw [Bool.and_eq_true, decide_eq_true_eq] at h3
  exact h3
theorem tg_ok {pc : Nat} {off : Int} (h : 0 ≤ Int.ofNat pc + off) : (pc : Int) + off = (tg pc off : Int) := by
  unfold tg
  rw [Int.toNat_of_nonneg h]
  rfl
section SND2
variable {l : Launch} {G : GP} {E : Nat → Lo → List AV → Mem → Prop} {d M pc pc' : Nat} {ls ls' : Lo} {st st' : List AV} {σ σ' : Mem} {Q : RV → Mem → Prop}
theorem sx_two {g : Int → Int → List AV → Prop} (h : two st g) (hg : ∀ a b r, st = .inl b :: .inl a :: r → g a b r → SX l G E d M pc ls st σ Q) : SX l G E d M pc ls st σ Q := by
  unfold two at h; split at h
  · exact hg _ _ _ rfl h
  · exact h.elim
theorem sx_one {g : Int → List AV → Prop} (h : one st g) (hg : ∀ a r, st = .inl a :: r → g a r → SX l G E d M pc ls st σ Q) : SX l G E d M pc ls st σ Q := by
  unfold one at h; split at h
  · exact hg _ _ rfl h
  · exact h.elim
theorem sx_twoJ {g : Int → Int → List AV → Prop} (h : twoJ st g) (hg : ∀ a b r, st = .inr (.inr (.inl b)) :: .inr (.inr (.inl a)) :: r → g a b r → SX l G E d M pc ls st σ Q) : SX l G E d M pc ls st σ Q := by
  unfold twoJ at h; split at h
  · exact hg _ _ _ rfl h
  · exact h.elim
theorem sx_oneJ {g : Int → List AV → Prop} (h : oneJ st g) (hg : ∀ a r, st = .inr (.inr (.inl a)) :: r → g a r → SX l G E d M pc ls st σ Q) : SX l G E d M pc ls st σ Q := by
  unfold oneJ at h; split at h
  · exact hg _ _ rfl h
  · exact h.elim
theorem sx_stI {k : Nat} {g : Lo → List AV → Prop} (h : stI ls k st g) (hg : ∀ w r, st = .inl w :: r → k < ls.length → g (setL (vI w) k ls) r → SX l G E d M pc ls st σ Q) : SX l G E d M pc ls st σ Q := by
  unfold stI at h; split at h
  · cases hc : stOk ls k with
    | true => rw [hc] at h; exact hg _ _ rfl (by unfold stOk at hc; exact Nat.le_of_ble_eq_true hc) h
    | false => rw [hc] at h; exact h.elim
  · exact h.elim
theorem sx_stA {k : Nat} {g : Lo → List AV → Prop} (h : stA ls k st g) (hg : ∀ w r, st = w :: r → k < ls.length → (∃ a, cv (gA G) w = .ref a) → g (setL (some w) k ls) r → SX l G E d M pc ls st σ Q) : SX l G E d M pc ls st σ Q := by
  unfold stA at h; split at h
  · cases hc : stOk ls k with
    | true => rw [hc] at h; exact hg _ _ rfl (by unfold stOk at hc; exact Nat.le_of_ble_eq_true hc) ⟨_, rfl⟩ h
    | false => rw [hc] at h; exact h.elim
  · cases hc : stOk ls k with
    | true => rw [hc] at h; exact hg _ _ rfl (by unfold stOk at hc; exact Nat.le_of_ble_eq_true hc) ⟨_, rfl⟩ h
    | false => rw [hc] at h; exact h.elim
  · exact h.elim
theorem sx_stJ {k : Nat} {g : Lo → List AV → Prop} (h : stJ ls k st g) (hg : ∀ w r, st = .inr (.inr (.inl w)) :: r → k + 1 < ls.length → g ((setL none (k + 1) (setL none k ls)).set k (vJ w)) r → SX l G E d M pc ls st σ Q) : SX l G E d M pc ls st σ Q := by
  unfold stJ at h; split at h
  · cases hc : (stOk ls k && Nat.blt (k + 1) ls.length) with
    | true => rw [hc] at h; exact hg _ _ rfl (by rw [Bool.and_eq_true] at hc; exact Nat.le_of_ble_eq_true hc.2) h
    | false => rw [hc] at h; exact h.elim
  · exact h.elim
/-- a branch -/
theorem sx_br {c : Jvm.ClassFile.Cond} {off : Int} {a b : Int} {r : List AV} (ht : 0 ≤ Int.ofNat pc + off) (ha : rg a) (hb : rg b) (hd : decode (byt M) pc = .ok (.if_icmp c off, 3)) (h1 : cnd c a b → SX l G E d M (tg pc off) ls r σ Q) (h2 : ncnd c a b → SX l G E d M (pc + 3) ls r σ Q) : SX l G E d M pc ls (.inl b :: .inl a :: r) σ Q := by
  intro p e R s m args below meth cc cb kc sb ks e0 Z hC hc1 hs1 hend H locs als hR hl hL hn hz hk
  have k1 := fun q => h1 q p e R s m args below meth cc cb kc sb ks e0 Z hC hc1 hs1 hend H locs als hR hl hL hn hz hk
  have k2 := fun q => h2 q p e R s m args below meth cc cb kc sb ks e0 Z hC hc1 hs1 hend H locs als hR hl hL hn hz hk
  have hx := hC.1
  have hbb := hC.2.1
  have hg := tg_ok ht
  cases c with
  | eq => exact lv_icmp_eq hx hbb hd hg (fun q => k1 ((i32_eq ha hb).mp q)) (fun q => k2 (fun e => q ((i32_eq ha hb).mpr e)))
  | ne => exact lv_icmp_ne hx hbb hd hg (fun q => k1 (fun e => q ((i32_eq ha hb).mpr e))) (fun q => k2 ((i32_eq ha hb).mp q))
  | lt => exact lv_icmp_lt hx hbb hd hg (fun q => k1 ((i32_lt ha hb).mp q)) (fun q => k2 (by have := mt (i32_lt ha hb).mpr q; show b ≤ a; omega))
  | ge => exact lv_icmp_ge hx hbb hd hg (fun q => k1 ((i32_le hb ha).mp q)) (fun q => k2 (by have := mt (i32_le hb ha).mpr q; show a < b; omega))
  | gt => exact lv_icmp_gt hx hbb hd hg (fun q => k1 ((i32_lt hb ha).mp q)) (fun q => k2 (by have := mt (i32_lt hb ha).mpr q; show a ≤ b; omega))
  | le => exact lv_icmp_le hx hbb hd hg (fun q => k1 ((i32_le ha hb).mp q)) (fun q => k2 (by have := mt (i32_le ha hb).mpr q; show b < a; omega))
theorem sx_br0 {c : Jvm.ClassFile.Cond} {off : Int} {a : Int} {r : List AV} (ht : 0 ≤ Int.ofNat pc + off) (ha : rg a) (hd : decode (byt M) pc = .ok (.ifCond c off, 3)) (h1 : cnd c a 0 → SX l G E d M (tg pc off) ls r σ Q) (h2 : ncnd c a 0 → SX l G E d M (pc + 3) ls r σ Q) : SX l G E d M pc ls (.inl a :: r) σ Q := by
  intro p e R s m args below meth cc cb kc sb ks e0 Z hC hc1 hs1 hend H locs als hR hl hL hn hz hk
  have k1 := fun q => h1 q p e R s m args below meth cc cb kc sb ks e0 Z hC hc1 hs1 hend H locs als hR hl hL hn hz hk
  have k2 := fun q => h2 q p e R s m args below meth cc cb kc sb ks e0 Z hC hc1 hs1 hend H locs als hR hl hL hn hz hk
  have hx := hC.1
  have hbb := hC.2.1
  have hg := tg_ok ht
  have hb : rg 0 := by decide
  have z0 : (0 : Int32) = Int32.ofInt 0 := rfl
  cases c with
  | eq => exact lv_if_eq hx hbb hd hg (fun q => k1 ((i32_eq ha hb).mp (q.trans z0))) (fun q => k2 (fun e => q (((i32_eq ha hb).mpr e).trans z0.symm)))
  | ne => exact lv_if_ne hx hbb hd hg (fun q => k1 (fun e => q (((i32_eq ha hb).mpr e).trans z0.symm))) (fun q => k2 ((i32_eq ha hb).mp (q.trans z0)))
  | lt => exact lv_if_lt hx hbb hd hg (fun q => k1 ((i32_lt ha hb).mp q)) (fun q => k2 (by have := mt (i32_lt ha hb).mpr q; show 0 ≤ a; omega))
  | ge => exact lv_if_ge hx hbb hd hg (fun q => k1 ((i32_le hb ha).mp q)) (fun q => k2 (by have := mt (i32_le hb ha).mpr q; show a < 0; omega))
  | gt => exact lv_if_gt hx hbb hd hg (fun q => k1 ((i32_lt hb ha).mp q)) (fun q => k2 (by have := mt (i32_lt hb ha).mpr q; show a ≤ 0; omega))
  | le => exact lv_if_le hx hbb hd hg (fun q => k1 ((i32_le ha hb).mp q)) (fun q => k2 (by have := mt (i32_le ha hb).mpr q; show 0 < a; omega))
theorem sw_at {x : Int} {k : Int → Prop} {d : Int} : ∀ (os : List Int) (lo : Int), sw x lo os d k → (∃ o, os[(x - lo).toNat]? = some o ∧ lo ≤ x ∧ x < lo + Int.ofNat os.length ∧ k o) ∨ ((x < lo ∨ lo + Int.ofNat os.length ≤ x) ∧ k d)
  | [], lo, h => by
    right
    refine ⟨?_, h⟩
    simp; omega
  | o :: r, lo, h => by
    by_cases e : x = lo
    · left
      refine ⟨o, ?_, by omega, by simp; omega, h.1 e⟩
      rw [show (x - lo).toNat = 0 by omega]; rfl
    · rcases sw_at r (lo + 1) (h.2 e) with ⟨o', h1, h2, h3, h4⟩ | ⟨h1, h2⟩
      · left
        refine ⟨o', ?_, by omega, by simp at h3 ⊢; omega, h4⟩
        rw [show (x - lo).toNat = (x - (lo + 1)).toNat + 1 by omega]
        simpa using h1
      · right
        refine ⟨?_, h2⟩
        simp at h1 ⊢; omega
theorem sx_tsw {dflt lo hi : Int} {offs : Array Int} {len : Nat} {a : Int} {r : List AV} (ha : rg a) (hd : decode (byt M) pc = .ok (.tableswitch dflt lo hi offs, len)) (hlen : hi - lo + 1 = Int.ofNat offs.toList.length) (h0 : 0 ≤ Int.ofNat pc + dflt) (hos : ∀ o ∈ offs.toList, 0 ≤ Int.ofNat pc + o)
    (h : sw a lo offs.toList dflt (fun o => SX l G E d M (tg pc o) ls r σ Q)) : SX l G E d M pc ls (.inl a :: r) σ Q := by
  have ei := i32_to ha
  rcases sw_at _ _ h with ⟨o, h1, h2, h3, h4⟩ | ⟨h1, h2⟩
  · refine sx_k h4 (fun p e R s m args below meth c H locs cells slots Z als hx hb k => lv_tableIn (off := o) hx hb hd (by rw [ei]; omega) (by rw [ei]; omega) (by rw [ei, ← Array.getElem?_toList]; exact h1) (tg_ok (hos o (List.mem_of_getElem? h1))) k)
  · refine sx_k h2 (fun p e R s m args below meth c H locs cells slots Z als hx hb k => lv_tableOut hx hb hd (by rw [ei]; omega) (tg_ok h0) k)
theorem swL_at {x : Int} {k : Int → Prop} {d : Int} : ∀ (os : List (Int × Int)), swL x os d k → k (Op.lookupswitch.offset os d x) ∧ (Op.lookupswitch.offset os d x = d ∨ ∃ q ∈ os, q.2 = Op.lookupswitch.offset os d x)
  | [], h => by
    have e : Op.lookupswitch.offset [] d x = d := by first | rfl | simp [Op.lookupswitch.offset]
    rw [e]; exact ⟨h, Or.inl rfl⟩
  | (a, o) :: r, h => by
    rw [Op.lookupswitch.offset_cons]
    by_cases e : x = a
    · rw [if_pos (by first | exact e | exact e.symm)]; exact ⟨h.1 e, Or.inr ⟨_, List.mem_cons_self, rfl⟩⟩
    · rw [if_neg (by first | exact e | exact fun q => e q.symm)]
      obtain ⟨h1, h2⟩ := swL_at r (h.2 e)
      refine ⟨h1, ?_⟩
      rcases h2 with h2 | ⟨q, h2, h3⟩
      · exact Or.inl h2
      · exact Or.inr ⟨q, List.mem_cons_of_mem _ h2, h3⟩
theorem sx_lsw {dflt : Int} {ps : Array (Int × Int)} {len : Nat} {a : Int} {r : List AV} (ha : rg a) (hd : decode (byt M) pc = .ok (.lookupswitch dflt ps, len)) (hp : (ps.toList.zip (ps.toList.drop 1)).all (fun (a, next) => a.1 < next.1) = true) (h0 : 0 ≤ Int.ofNat pc + dflt) (hos : ∀ o ∈ ps.toList, 0 ≤ Int.ofNat pc + o.2)
    (h : swL a ps.toList dflt (fun o => SX l G E d M (tg pc o) ls r σ Q)) : SX l G E d M pc ls (.inl a :: r) σ Q := by
  obtain ⟨h1, h2⟩ := swL_at _ h
  refine sx_k h1 (fun p e R s m args below meth c H locs cells slots Z als hx hb k => lv_lookup hx hb hd hp (by rw [i32_to ha]) (tg_ok ?_) k)
  rcases h2 with h2 | ⟨q, h2, h3⟩
  · rw [h2]; exact h0
  · rw [← h3]; exact hos q h2
end SND2
