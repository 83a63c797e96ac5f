/-! ===== figures of 8 squares: the least pictures (by wip/gen/poly.py) ===== -/
theorem chq8_0 : fl8r0.all (fun c => c.all (fun m => inQ 8 (kyM m))) = true := by decide +kernel
theorem chq8_1 : fl8r1.all (fun c => c.all (fun m => inQ 8 (kyM m))) = true := by decide +kernel
theorem chq8_2 : fl8r2.all (fun c => c.all (fun m => inQ 8 (kyM m))) = true := by decide +kernel
theorem chq8_3 : fl8r3.all (fun c => c.all (fun m => inQ 8 (kyM m))) = true := by decide +kernel
