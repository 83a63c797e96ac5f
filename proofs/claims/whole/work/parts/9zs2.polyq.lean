/-! ===== figures of 8 squares: the least pictures (by wip/gen/poly.py) ===== -/
theorem chq8_8 : fl8r8.all (fun c => c.all (fun m => inQ 8 (kyM m))) = true := by decide +kernel
theorem chq8_9 : fl8r9.all (fun c => c.all (fun m => inQ 8 (kyM m))) = true := by decide +kernel
theorem chq8_10 : fl8r10.all (fun c => c.all (fun m => inQ 8 (kyM m))) = true := by decide +kernel
theorem chq8_11 : fl8r11.all (fun c => c.all (fun m => inQ 8 (kyM m))) = true := by decide +kernel
