/-! ===== figures of 8 squares: the least pictures (by wip/gen/poly.py) ===== -/
theorem chq8_12 : fl8r12.all (fun c => c.all (fun m => inQ 8 (kyM m))) = true := by decide +kernel
theorem chq8_13 : fl8r13.all (fun c => c.all (fun m => inQ 8 (kyM m))) = true := by decide +kernel
theorem chq8_14 : fl8r14.all (fun c => c.all (fun m => inQ 8 (kyM m))) = true := by decide +kernel
theorem chq8_15 : fl8r15.all (fun c => c.all (fun m => inQ 8 (kyM m))) = true := by decide +kernel
theorem chq8_16 : fl8r16.all (fun c => c.all (fun m => inQ 8 (kyM m))) = true := by decide +kernel
theorem chq8 : alB fl8 (fun m => inQ 8 (kyM m)) = true := by
  unfold alB fl8
  simp only [List.all_cons, List.all_nil, chq8_0, chq8_1, chq8_2, chq8_3, chq8_4, chq8_5, chq8_6, chq8_7, chq8_8, chq8_9, chq8_10, chq8_11, chq8_12, chq8_13, chq8_14, chq8_15, chq8_16, Bool.and_true]
