/-! ===== LAWS OF THE ABSTRACT MACHINE: what is asked may be weakened; blocks ===== -/
theorem ldI_m {ls : Lo} {k : Nat} {g g' : Int → Prop} (h : ∀ w, g w → g' w) : ldI ls k g → ldI ls k g' := by
  unfold ldI; split
  · exact h _
  · exact id
theorem ldJ_m {ls : Lo} {k : Nat} {g g' : Int → Prop} (h : ∀ w, g w → g' w) : ldJ ls k g → ldJ ls k g' := by
  unfold ldJ; split
  · exact h _
  · exact id
theorem ldA_m {ls : Lo} {k : Nat} {g g' : AV → Prop} (h : ∀ w, g w → g' w) : ldA ls k g → ldA ls k g' := by
  unfold ldA; split
  · exact h _
  · exact h _
  · exact id
theorem bif_m {b : Bool} {p q : Prop} (h : p → q) : (bif b then p else False) → (bif b then q else False) := by
  cases b
  · exact id
  · exact h
theorem stI_m {ls : Lo} {k : Nat} {st : List AV} {g g' : Lo → List AV → Prop} (h : ∀ l r, g l r → g' l r) : stI ls k st g → stI ls k st g' := by
  unfold stI; split
  · exact bif_m (h _ _)
  · exact id
theorem stJ_m {ls : Lo} {k : Nat} {st : List AV} {g g' : Lo → List AV → Prop} (h : ∀ l r, g l r → g' l r) : stJ ls k st g → stJ ls k st g' := by
  unfold stJ; split
  · exact bif_m (h _ _)
  · exact id
theorem stA_m {ls : Lo} {k : Nat} {st : List AV} {g g' : Lo → List AV → Prop} (h : ∀ l r, g l r → g' l r) : stA ls k st g → stA ls k st g' := by
  unfold stA; split
  · exact bif_m (h _ _)
  · exact bif_m (h _ _)
  · exact id
theorem two_m {st : List AV} {g g' : Int → Int → List AV → Prop} (h : ∀ a b r, g a b r → g' a b r) : two st g → two st g' := by
  unfold two; split
  · exact h _ _ _
  · exact id
theorem one_m {st : List AV} {g g' : Int → List AV → Prop} (h : ∀ a r, g a r → g' a r) : one st g → one st g' := by
  unfold one; split
  · exact h _ _
  · exact id
theorem twoJ_m {st : List AV} {g g' : Int → Int → List AV → Prop} (h : ∀ a b r, g a b r → g' a b r) : twoJ st g → twoJ st g' := by
  unfold twoJ; split
  · exact h _ _ _
  · exact id
theorem oneJ_m {st : List AV} {g g' : Int → List AV → Prop} (h : ∀ a r, g a r → g' a r) : oneJ st g → oneJ st g' := by
  unfold oneJ; split
  · exact h _ _
  · exact id
theorem and_m {p q q' : Prop} (h : q → q') : p ∧ q → p ∧ q' := fun x => ⟨x.1, h x.2⟩
theorem rdI_m {σ : Mem} {i : Int} {v : AV} {g g' : Int → Prop} (h : ∀ w, g w → g' w) : rdI σ i v g → rdI σ i v g' := by
  unfold rdI; split
  · split
    · exact and_m (h _)
    · exact and_m (h _)
    · exact and_m (h _)
    · exact id
  · split
    · exact and_m (h _)
    · exact id
  · exact id
theorem wrI_m {σ : Mem} {x i : Int} {v : AV} {g g' : Mem → Prop} (h : ∀ w, g w → g' w) : wrI σ x i v g → wrI σ x i v g' := by
  unfold wrI; split
  · split
    · exact and_m (h _)
    · exact id
  · split
    · exact and_m (h _)
    · exact id
  · exact id
theorem lenA_m {σ : Mem} {v : AV} {g g' : Int → Prop} (h : ∀ w, g w → g' w) : lenA σ v g → lenA σ v g' := by
  unfold lenA; split
  · split
    · exact h _
    · exact h _
    · exact id
  · split
    · exact and_m (h _)
    · exact id
  · exact id
theorem acp_m {σ : Mem} {st : List AV} {g g' : List AV → Mem → Prop} (h : ∀ r w, g r w → g' r w) : acp σ st g → acp σ st g' := by
  unfold acp; split
  · split
    · exact and_m (h _ _)
    · exact and_m (h _ _)
    · exact id
  · exact id
theorem gf_m {σ : Mem} {a x y z : Nat} {v : Int} {g g' : AV → Prop} (h : ∀ w, g w → g' w) : gf σ a x y z v g → gf σ a x y z v g' := by
  unfold gf
  refine bif_m ?_
  split
  · exact h _
  · exact h _
  · exact h _
theorem pf_m {σ : Mem} {st : List AV} {x z : Nat} {v : Int} {g g' : List AV → Mem → Prop} (h : ∀ r w, g r w → g' r w) : pf σ st x z v g → pf σ st x z v g' := by
  unfold pf; split
  · refine bif_m ?_
    split
    · exact h _ _
    · exact and_m (h _ _)
    · exact id
  · refine bif_m ?_
    split
    · exact h _ _
    · exact id
  · exact id
theorem prs_m {σ : Mem} {st : List AV} {g g' : List AV → Mem → Prop} (h : ∀ r w, g r w → g' r w) : prs σ st g → prs σ st g' := by
  unfold prs; split
  · exact fun q => ⟨q.1, fun c => ⟨(q.2.1 c).1, (q.2.1 c).2.1, h _ _ (q.2.1 c).2.2⟩, fun c => h _ _ (q.2.2 c)⟩
  · exact id
theorem sw_m {x : Int} {k k' : Int → Prop} (h : ∀ o, k o → k' o) : ∀ (os : List Int) (lo d : Int), sw x lo os d k → sw x lo os d k'
  | [], _, _ => h _
  | _ :: r, lo, d => fun q => ⟨fun e => h _ (q.1 e), fun e => sw_m h r (lo + 1) d (q.2 e)⟩
theorem swL_m {x : Int} {k k' : Int → Prop} (h : ∀ o, k o → k' o) : ∀ (os : List (Int × Int)) (d : Int), swL x os d k → swL x os d k'
  | [], _ => h _
  | (_, _) :: r, d => fun q => ⟨fun e => h _ (q.1 e), fun e => swL_m h r d (q.2 e)⟩
theorem oI_m {r : RV} {k k' : Int → Prop} (h : ∀ w, k w → k' w) : oI r k → oI r k' := by
  unfold oI; split
  · exact h _
  · exact id
theorem oJ_m {r : RV} {k k' : Int → Prop} (h : ∀ w, k w → k' w) : oJ r k → oJ r k' := by
  unfold oJ; split
  · exact h _
  · exact id
theorem oV_m {r : RV} {k k' : Prop} (h : k → k') : oV r k → oV r k' := by
  unfold oV; split
  · exact h
  · exact id
theorem inv_m {call call' : Nat → List AV → Mem → (RV → Mem → Prop) → Prop} (hc : ∀ x a σ K K', (∀ r τ, K r τ → K' r τ) → call x a σ K → call' x a σ K') {g g' : List AV → Mem → Prop} (h : ∀ r w, g r w → g' r w) {x y : Nat} {st : List AV} {σ : Mem} : inv call g x y st σ → inv call' g' x y st σ := by
  unfold inv
  refine bif_m ?_
  split
  · exact hc _ _ _ _ _ (fun r τ => oV_m (h _ _))
  · exact hc _ _ _ _ _ (fun r τ => oJ_m (fun w => h _ _))
  · exact hc _ _ _ _ _ (fun r τ => oI_m (fun w => h _ _))
set_option maxHeartbeats 4000000 in
theorem stp_m {call call' : Nat → List AV → Mem → (RV → Mem → Prop) → Prop} (hc : ∀ x a σ K K', (∀ r τ, K r τ → K' r τ) → call x a σ K → call' x a σ K') {go go' : Nat → Lo → List AV → Mem → Prop} (hg : ∀ pc ls st σ, go pc ls st σ → go' pc ls st σ) {fin fin' : RV → Mem → Prop} (hf : ∀ r σ, fin r σ → fin' r σ) {dp M pc : Nat} {ls : Lo} {st : List AV} {σ : Mem} :
    stp call go fin dp M pc ls st σ → stp call' go' fin' dp M pc ls st σ := by
  unfold stp
  split
  · exact id
  · rename_i i n x y z v _
    cases i
    all_goals first
      | exact id
      | exact hg _ _ _ _
      | exact ldI_m (fun w => hg _ _ _ _)
      | exact ldJ_m (fun w => hg _ _ _ _)
      | exact ldA_m (fun w => hg _ _ _ _)
      | exact stI_m (fun l r => hg _ _ _ _)
      | exact stJ_m (fun l r => hg _ _ _ _)
      | exact stA_m (fun l r => hg _ _ _ _)
      | exact ldI_m (fun w => bif_m (hg _ _ _ _))
      | exact two_m (fun a b r => hg _ _ _ _)
      | exact two_m (fun a b r => and_m (hg _ _ _ _))
      | exact one_m (fun a r => hg _ _ _ _)
      | exact one_m (fun a r => and_m (hg _ _ _ _))
      | exact twoJ_m (fun a b r => hg _ _ _ _)
      | exact twoJ_m (fun a b r => and_m (hg _ _ _ _))
      | exact oneJ_m (fun a r => hg _ _ _ _)
      | exact one_m (fun a r => and_m (fun q => ⟨fun e => hg _ _ _ _ (q.1 e), fun e => hg _ _ _ _ (q.2 e)⟩))
      | exact two_m (fun a b r => and_m (fun q => ⟨fun e => hg _ _ _ _ (q.1 e), fun e => hg _ _ _ _ (q.2 e)⟩))
      | exact one_m (fun a r => and_m (sw_m (fun o => hg _ _ _ _) _ _ _))
      | exact one_m (fun a r => and_m (swL_m (fun o => hg _ _ _ _) _ _))
      | exact pf_m (fun r w => hg _ _ _ _)
      | exact inv_m hc (fun r w => hg _ _ _ _)
      | skip
    all_goals (dsimp only; repeat' split)
    all_goals first
      | exact id
      | exact hg _ _ _ _
      | exact bif_m (hg _ _ _ _)
      | exact gf_m (fun w => hg _ _ _ _)
      | exact rdI_m (fun w => hg _ _ _ _)
      | exact wrI_m (fun w => hg _ _ _ _)
      | exact lenA_m (fun w => hg _ _ _ _)
      | exact and_m (hg _ _ _ _)
      | exact acp_m (fun r w => hg _ _ _ _)
      | exact bif_m (prs_m (fun r w => hg _ _ _ _))
      | exact inv_m hc (fun r w => hg _ _ _ _)
      | exact hf _ _
      | exact and_m (hf _ _)
theorem Ev.mono {d M pc : Nat} {ls : Lo} {st : List AV} {σ : Mem} {Q Q' : RV → Mem → Prop} (h : Ev d M pc ls st σ Q) (hq : ∀ r τ, Q r τ → Q' r τ) : Ev d M pc ls st σ Q' := by
  intro X hX
  have h1 := h (fun d M pc ls st σ Q => ∀ Q', (∀ r τ, Q r τ → Q' r τ) → X d M pc ls st σ Q') (by
    intro d M pc ls st σ Q hs Q' hq
    refine hX _ _ _ _ _ _ _ (stp_m ?_ ?_ hq hs)
    · intro x a σ K K' hk
      unfold clX
      cases d with
      | zero => exact id
      | succ d => exact fun q => q _ hk
    · exact fun pc ls st σ q => q _ hq)
  exact h1 _ hq
theorem Ev.step {d M pc : Nat} {ls : Lo} {st : List AV} {σ : Mem} {Q : RV → Mem → Prop} (h : stp (clE d) (fun pc ls st σ => Ev d M pc ls st σ Q) Q d M pc ls st σ) : Ev d M pc ls st σ Q := by
  intro X hX
  refine hX _ _ _ _ _ _ _ (stp_m ?_ ?_ (fun _ _ => id) h)
  · intro x a σ K K' hk
    unfold clX clE
    cases d with
    | zero => exact id
    | succ d => exact fun q => (Ev.mono q hk) X hX
  · exact fun pc ls st σ q => q X hX
theorem wp_ev {d M : Nat} {Q : RV → Mem → Prop} : ∀ (n pc : Nat) (ls : Lo) (st : List AV) (σ : Mem), wp d M Q n pc ls st σ → Ev d M pc ls st σ Q
  | 0, _, _, _, _, h => h
  | n + 1, pc, ls, st, σ, h => by
    unfold wp at h
    cases hc : cuts M pc with
    | true => rw [hc] at h; exact h
    | false =>
      rw [hc] at h
      refine Ev.step (stp_m ?_ ?_ (fun _ _ => id) h)
      · intro x a σ K K' hk
        unfold clE
        cases d with
        | zero => exact id
        | succ d => exact fun q => Ev.mono q hk
      · exact fun pc ls st σ q => wp_ev n pc ls st σ q
/-- a block: from a cut to the next ones -/
theorem blk {d M : Nat} {Q : RV → Mem → Prop} (n : Nat) {pc : Nat} {ls : Lo} {st : List AV} {σ : Mem} (h : stp (clE d) (wp d M Q n) Q d M pc ls st σ) : Ev d M pc ls st σ Q := by
  refine Ev.step (stp_m ?_ ?_ (fun _ _ => id) h)
  · intro x a σ K K' hk
    unfold clE
    cases d with
    | zero => exact id
    | succ d => exact fun q => Ev.mono q hk
  · exact fun pc ls st σ q => wp_ev n pc ls st σ q
theorem Cl.mono {d M : Nat} {args : List AV} {σ : Mem} {Q Q' : RV → Mem → Prop} (h : Cl d M args σ Q) (hq : ∀ r τ, Q r τ → Q' r τ) : Cl d M args σ Q' := Ev.mono h hq
