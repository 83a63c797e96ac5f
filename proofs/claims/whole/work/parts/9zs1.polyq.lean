/-! ===== figures of 8 squares: the least pictures (by wip/gen/poly.py) ===== -/
theorem chq8_4 : fl8r4.all (fun c => c.all (fun m => inQ 8 (kyM m))) = true := by decide +kernel
theorem chq8_5 : fl8r5.all (fun c => c.all (fun m => inQ 8 (kyM m))) = true := by decide +kernel
theorem chq8_6 : fl8r6.all (fun c => c.all (fun m => inQ 8 (kyM m))) = true := by decide +kernel
theorem chq8_7 : fl8r7.all (fun c => c.all (fun m => inQ 8 (kyM m))) = true := by decide +kernel
