/-! ===== the law's loop: its head, its switch, its step ===== -/
abbrev lL (a : Nat) : List (Option Value) := [some (.ref 0), some (.ref 10), some (.ref 179), some (.ref 234), some (.int (nI a)), none, none]
theorem sc_gt {a l : Nat} (ha : a < 2147483648) (hl : l < 2147483648) : (nI l - nI 7 < nI a) = (l < a + 7) := by
  have e1 : (nI a).toInt = (a : Int) := nI_toInt ha
  have e2 : (nI l).toInt = (l : Int) := nI_toInt hl
  have e7 : (nI 7).toInt = 7 := by decide
  apply propext
  rw [Int32.lt_iff_toInt_lt, Int32.toInt_sub, e1, e2, e7, Int.bmod_eq_of_le (by omega) (by omega)]
  omega
section LOOP
variable {g : GV} {Z : ZC} {d mc ms k n a : Nat} {σ : PS}
theorem vL_step (h : VL g Z d mc ms k n 23 (lL (a + 7)) [] σ) : VL g Z d mc ms k n 1043 (lL a) [] σ := by
  refine x_iinc (v := nI (a + 7)) (dxL_law_20 12 rfl) (i := 4) rfl (by rw [← nI_add]; rfl) (Nat.le_of_ble_eq_true rfl) rfl rfl ?_
  exact x_goto (tgt := 23) (dxL_law_20 13 rfl) (by decide) h
theorem vL_head (hg : gL g < 2147483648) (ha : a < 2147483648) (h1 : a + 7 ≤ gL g → VL g Z d mc ms k n 40 (lL a) [.int (gx g a &&& 31)] σ) (h2 : gL g < a + 7 → VL g Z d mc ms k n 1049 (lL a) [] σ) : VL g Z d mc ms k n 23 (lL a) [] σ := by
  refine x_iload (i := 4) (dxL_law_0 13 rfl) rfl ?_
  refine x_aload_n (i := 0) (dxL_law_0 14 rfl) rfl rfl ?_
  refine x_tslen (dxL_law_0 15 rfl) ?_
  refine x_bipush (v := 7) (dxL_law_0 16 rfl) rfl ?_
  refine x_isub (dxL_law_0 17 rfl) ?_
  refine x_icmp_gt (tgt := 1049) (dxL_law_0 18 rfl) (by decide) (fun hc => ?_) (fun hc => ?_)
  · rw [lit32 7, sc_gt ha hg] at hc
    exact h2 hc
  · rw [lit32 7, sc_gt ha hg] at hc
    refine x_aload_n (i := 0) (dxL_law_0 19 rfl) rfl rfl ?_
    refine x_iload (i := 4) (dxL_law_0 20 rfl) rfl ?_
    refine x_sc0 (by omega) hg (dxL_law_0 21 rfl) ?_
    refine x_bipush (v := 31) (dxL_law_0 22 rfl) rfl ?_
    refine x_iand (dxL_law_0 23 rfl) ?_
    exact h1 (by omega)
/-- where the switch goes -/
def tgL : Nat → Nat := fun j => 40 + [108, 255, 268, 305, 342, 355, 392, 429, 454, 467, 480, 517, 542, 591, 628, 653, 666, 727, 807, 875, 900, 925, 978].getD j 0
theorem vL_switch {v : Int32} (h : ∀ j, j < 23 → v = nI j → VL g Z d mc ms k n (tgL j) (lL a) [] σ) (hd : (∀ j, j < 23 → ¬ v = nI j) → VL g Z d mc ms k n 1043 (lL a) [] σ) : VL g Z d mc ms k n 40 (lL a) [.int v] σ := by
  by_cases hx : ∃ j, j < 23 ∧ v = nI j
  · obtain ⟨j, hj, rfl⟩ := hx
    have hh := h j hj rfl
    clear h hd
    match j, hj, hh with
    | 0, _, hh => exact x_tableIn (tgt := tgL 0) (dxL_law_0 24 rfl) (by decide) (by decide) rfl (by decide) hh
    | 1, _, hh => exact x_tableIn (tgt := tgL 1) (dxL_law_0 24 rfl) (by decide) (by decide) rfl (by decide) hh
    | 2, _, hh => exact x_tableIn (tgt := tgL 2) (dxL_law_0 24 rfl) (by decide) (by decide) rfl (by decide) hh
    | 3, _, hh => exact x_tableIn (tgt := tgL 3) (dxL_law_0 24 rfl) (by decide) (by decide) rfl (by decide) hh
    | 4, _, hh => exact x_tableIn (tgt := tgL 4) (dxL_law_0 24 rfl) (by decide) (by decide) rfl (by decide) hh
    | 5, _, hh => exact x_tableIn (tgt := tgL 5) (dxL_law_0 24 rfl) (by decide) (by decide) rfl (by decide) hh
    | 6, _, hh => exact x_tableIn (tgt := tgL 6) (dxL_law_0 24 rfl) (by decide) (by decide) rfl (by decide) hh
    | 7, _, hh => exact x_tableIn (tgt := tgL 7) (dxL_law_0 24 rfl) (by decide) (by decide) rfl (by decide) hh
    | 8, _, hh => exact x_tableIn (tgt := tgL 8) (dxL_law_0 24 rfl) (by decide) (by decide) rfl (by decide) hh
    | 9, _, hh => exact x_tableIn (tgt := tgL 9) (dxL_law_0 24 rfl) (by decide) (by decide) rfl (by decide) hh
    | 10, _, hh => exact x_tableIn (tgt := tgL 10) (dxL_law_0 24 rfl) (by decide) (by decide) rfl (by decide) hh
    | 11, _, hh => exact x_tableIn (tgt := tgL 11) (dxL_law_0 24 rfl) (by decide) (by decide) rfl (by decide) hh
    | 12, _, hh => exact x_tableIn (tgt := tgL 12) (dxL_law_0 24 rfl) (by decide) (by decide) rfl (by decide) hh
    | 13, _, hh => exact x_tableIn (tgt := tgL 13) (dxL_law_0 24 rfl) (by decide) (by decide) rfl (by decide) hh
    | 14, _, hh => exact x_tableIn (tgt := tgL 14) (dxL_law_0 24 rfl) (by decide) (by decide) rfl (by decide) hh
    | 15, _, hh => exact x_tableIn (tgt := tgL 15) (dxL_law_0 24 rfl) (by decide) (by decide) rfl (by decide) hh
    | 16, _, hh => exact x_tableIn (tgt := tgL 16) (dxL_law_0 24 rfl) (by decide) (by decide) rfl (by decide) hh
    | 17, _, hh => exact x_tableIn (tgt := tgL 17) (dxL_law_0 24 rfl) (by decide) (by decide) rfl (by decide) hh
    | 18, _, hh => exact x_tableIn (tgt := tgL 18) (dxL_law_0 24 rfl) (by decide) (by decide) rfl (by decide) hh
    | 19, _, hh => exact x_tableIn (tgt := tgL 19) (dxL_law_0 24 rfl) (by decide) (by decide) rfl (by decide) hh
    | 20, _, hh => exact x_tableIn (tgt := tgL 20) (dxL_law_0 24 rfl) (by decide) (by decide) rfl (by decide) hh
    | 21, _, hh => exact x_tableIn (tgt := tgL 21) (dxL_law_0 24 rfl) (by decide) (by decide) rfl (by decide) hh
    | 22, _, hh => exact x_tableIn (tgt := tgL 22) (dxL_law_0 24 rfl) (by decide) (by decide) rfl (by decide) hh
    | j + 23, hj, _ => omega
  · have hx' : ∀ j, j < 23 → ¬ v = nI j := fun j hj e => hx ⟨j, hj, e⟩
    exact x_tableOut (tgt := 1043) (dxL_law_0 24 rfl) (tab_out (n := 22) (by decide) (fun j hj => hx' j (by omega))) (by decide) (hd hx')
end LOOP
