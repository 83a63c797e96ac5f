/-! ===== the law's loop ===== -/
theorem World.lay {σ : PS} (h : World σ) : Lay σ := by
  obtain ⟨w, E, ρ, S, at', last, mk, L, hL, -⟩ := h
  exact hL
theorem lawloop {g : GV} {Z : ZC} {mc ms : Nat} (hfl : (gl g).stackTraces = false) (hZn : ∀ p e R s m args below meth c Q, Z p e R s m args below meth c Q → nsW s) (hg : gL g < 2147483648) (hend : ∀ k n a σ, k ≤ mc → n ≤ ms → VL g Z 61 mc ms k n 1049 (lL a) [] σ) :
    ∀ z a k n σ, gL g - a ≤ z → a ≤ gL g → k + (gL g - a) ≤ mc → n + 6 * (gL g - a) ≤ ms → World σ → VL g Z 61 mc ms k n 23 (lL a) [] σ := by
  intro z
  induction z with
  | zero =>
    intro a k n σ hz ha hk hn hW
    exact vL_head hg (by omega) (fun h => by omega) (fun _ => hend k n a σ (by omega) (by omega))
  | succ z ih =>
    intro a k n σ hz ha hk hn hW
    have hL := hW.lay
    refine vL_head hg (by omega) (fun h7 => ?_) (fun _ => hend k n a σ (by omega) (by omega))
    have R : ∀ s, World s → VL g Z 61 mc ms k n 1043 (lL a) [] s := fun s hs => vL_step (ih (a + 7) k n s (by omega) (by omega) (by omega) (by omega) hs)
    have R2 : ∀ s, World s → VL g Z 61 mc ms (k + 1) (n + 6) 1043 (lL a) [] s := fun s hs => vL_step (ih (a + 7) (k + 1) (n + 6) s (by omega) (by omega) (by omega) (by omega) hs)
    have hk1 : k ≤ mc := by omega
    have hn1 : n ≤ ms := by omega
    have hk2 : k + 1 ≤ mc := by omega
    have hn2 : n + 6 ≤ ms := by omega
    refine vL_switch (fun j hj _ => ?_) (fun _ => R σ hW)
    match j, hj with
    | 0, _ => exact vL_0 (d := 60) hL hk1 hn1 h7 hg (cs_feed hW R)
    | 1, _ => exact vL_1 (d := 60) hL hk1 hn1 h7 hg (cs_figure hW R)
    | 2, _ => exact vL_2 (d := 60) hL hk1 hn1 h7 hg (cs_cell hW R)
    | 3, _ => exact vL_3 (d := 60) hL hk1 hn1 h7 hg (cs_edge hW R)
    | 4, _ => exact vL_4 (d := 60) hL hk1 hn1 h7 hg (cs_gluings hW R)
    | 5, _ => exact vL_5 (d := 60) hL hk1 hn1 h7 hg (cs_partner hW R)
    | 6, _ => exact vL_6 (d := 60) hL hk1 hn1 h7 hg (cs_glue hW R)
    | 7, _ => exact vL_7 (d := 60) hL hk1 hn1 h7 hg (cs_choose hW R)
    | 8, _ => exact vL_8 (d := 60) hL hk1 hn1 h7 hg (cs_undo hW R)
    | 9, _ => exact vL_9 (d := 60) hL hk1 hn1 h7 hg (cs_redo hW R)
    | 10, _ => exact vL_10 (d := 60) hL hk1 hn1 h7 hg (cs_corner hW R)
    | 11, _ => exact vL_11 (d := 60) hL hk1 hn1 h7 hg (cs_lacking hW R)
    | 12, _ => exact vL_12 (d := 60) hL hk1 hn1 h7 hg (cs_beyond hW R)
    | 13, _ => exact vL_13 (d := 60) hL hk1 hn1 h7 hg (cs_same hW R)
    | 14, _ => exact vL_14 (d := 60) hL hk1 hn1 h7 hg (cs_bodyOf hW R)
    | 15, _ => exact vL_15 (d := 60) hL hk1 hn1 h7 hg (cs_bodies hW R)
    | 16, _ => exact vL_16 (d := 60) hL hk1 hn1 h7 hg (cs_way hW R)
    | 17, _ => exact vL_17 (d := 60) hL hZn hk2 hn2 h7 hg (cs_shortest hfl hW R2)
    | 18, _ => exact vL_18 (d := 60) hL hZn hk2 hn2 h7 hg (cs_round hfl hW R2)
    | 19, _ => exact vL_19 (d := 60) hL hk1 hn1 h7 hg (cs_farthest hW R)
    | 20, _ => exact vL_20 (d := 60) hL hk1 hn1 h7 hg (cs_nets hW R)
    | 21, _ =>
      refine vL_21 (d := 60) hL hk1 hn1 h7 hg ⟨fun z0 => Ct.imp (cs_mark (b := 0) hW R) (fun r s q => ?_), fun z0 => Ct.imp (cs_mark (b := 1) hW R) (fun r s q => ?_)⟩
      · obtain ⟨v, rfl, q1, q2⟩ := q
        exact ⟨v, rfl, q1, fun _ => q2, fun z1 => absurd z0 z1⟩
      · obtain ⟨v, rfl, q1, q2⟩ := q
        exact ⟨v, rfl, q1, fun z1 => absurd z1 z0, fun _ => q2⟩
    | 22, _ => exact vL_22 (d := 60) hL hk1 hn1 h7 hg (cs_count hW R)
    | j + 23, h => exact absurd h (by omega)
