/-! ===== the law, piece by piece ===== -/
def chkS (M : Nat) (l : List (Nat × List (Nat × Ent))) : Bool := l.all (fun s => s.2.all (fun q => decide (decode (byt M) q.1 = .ok (q.2.1, q.2.2.1)) && chkE (own M) (mtb M).2.2.1 q.1 q.2))
theorem chkS_step {M k n : Nat} {l : List (Nat × List (Nat × Ent))} (h1 : chkS M ((l.drop k).take n) = true) (h2 : chkS M (l.drop (k + n)) = true) : chkS M (l.drop k) = true := by
  rw [← List.take_append_drop n (l.drop k)]
  unfold chkS at *
  rw [List.all_append, h1, List.drop_drop, h2]
  rfl
set_option maxRecDepth 100000 in
theorem ckl_0 : chkS 319 ((mc_L_law.drop 0).take 3) = true := by decide +kernel
set_option maxRecDepth 100000 in
theorem ckl_1 : chkS 319 ((mc_L_law.drop 3).take 3) = true := by decide +kernel
set_option maxRecDepth 100000 in
theorem ckl_2 : chkS 319 ((mc_L_law.drop 6).take 3) = true := by decide +kernel
set_option maxRecDepth 100000 in
theorem ckl_3 : chkS 319 ((mc_L_law.drop 9).take 3) = true := by decide +kernel
set_option maxRecDepth 100000 in
theorem ckl_4 : chkS 319 ((mc_L_law.drop 12).take 3) = true := by decide +kernel
set_option maxRecDepth 100000 in
theorem ckl_5 : chkS 319 ((mc_L_law.drop 15).take 3) = true := by decide +kernel
set_option maxRecDepth 100000 in
theorem ckl_6 : chkS 319 ((mc_L_law.drop 18).take 3) = true := by decide +kernel
set_option maxRecDepth 100000 in
theorem ckl_7 : chkS 319 ((mc_L_law.drop 21).take 3) = true := by decide +kernel
set_option maxRecDepth 100000 in
theorem ckl_8 : chkS 319 ((mc_L_law.drop 24).take 3) = true := by decide +kernel
set_option maxRecDepth 100000 in
theorem ckl_9 : chkS 319 ((mc_L_law.drop 27).take 3) = true := by decide +kernel
set_option maxRecDepth 100000 in
theorem ckl_10 : chkS 319 ((mc_L_law.drop 30).take 3) = true := by decide +kernel
set_option maxRecDepth 100000 in
theorem ckl_11 : chkS 319 ((mc_L_law.drop 33).take 3) = true := by decide +kernel
set_option maxRecDepth 100000 in
theorem ckl_12 : chkS 319 ((mc_L_law.drop 36).take 3) = true := by decide +kernel
set_option maxRecDepth 100000 in
theorem ckl_13 : chkS 319 ((mc_L_law.drop 39).take 3) = true := by decide +kernel
set_option maxRecDepth 100000 in
theorem ckl_14 : chkS 319 ((mc_L_law.drop 42).take 3) = true := by decide +kernel
set_option maxRecDepth 100000 in
theorem ckl_15 : chkS 319 ((mc_L_law.drop 45).take 3) = true := by decide +kernel
set_option maxRecDepth 100000 in
theorem ckl_16 : chkS 319 ((mc_L_law.drop 48).take 3) = true := by decide +kernel
theorem ckt_17 : chkS 319 (mc_L_law.drop 51) = true := by decide +kernel
theorem ckt_16 : chkS 319 (mc_L_law.drop 48) = true := chkS_step ckl_16 ckt_17
theorem ckt_15 : chkS 319 (mc_L_law.drop 45) = true := chkS_step ckl_15 ckt_16
theorem ckt_14 : chkS 319 (mc_L_law.drop 42) = true := chkS_step ckl_14 ckt_15
theorem ckt_13 : chkS 319 (mc_L_law.drop 39) = true := chkS_step ckl_13 ckt_14
theorem ckt_12 : chkS 319 (mc_L_law.drop 36) = true := chkS_step ckl_12 ckt_13
theorem ckt_11 : chkS 319 (mc_L_law.drop 33) = true := chkS_step ckl_11 ckt_12
theorem ckt_10 : chkS 319 (mc_L_law.drop 30) = true := chkS_step ckl_10 ckt_11
theorem ckt_9 : chkS 319 (mc_L_law.drop 27) = true := chkS_step ckl_9 ckt_10
theorem ckt_8 : chkS 319 (mc_L_law.drop 24) = true := chkS_step ckl_8 ckt_9
theorem ckt_7 : chkS 319 (mc_L_law.drop 21) = true := chkS_step ckl_7 ckt_8
theorem ckt_6 : chkS 319 (mc_L_law.drop 18) = true := chkS_step ckl_6 ckt_7
theorem ckt_5 : chkS 319 (mc_L_law.drop 15) = true := chkS_step ckl_5 ckt_6
theorem ckt_4 : chkS 319 (mc_L_law.drop 12) = true := chkS_step ckl_4 ckt_5
theorem ckt_3 : chkS 319 (mc_L_law.drop 9) = true := chkS_step ckl_3 ckt_4
theorem ckt_2 : chkS 319 (mc_L_law.drop 6) = true := chkS_step ckl_2 ckt_3
theorem ckt_1 : chkS 319 (mc_L_law.drop 3) = true := chkS_step ckl_1 ckt_2
theorem ckt_0 : chkS 319 (mc_L_law.drop 0) = true := chkS_step ckl_0 ckt_1
theorem ck_319 : chkM 319 = true := ckt_0
