/-! ===== the reference's tests of a token ===== -/
theorem rt_w {L : List Nat} {b : Nat} : rt L b = 1 ↔ isW L b := by
  unfold rt isW
  by_cases c1 : L.length ≤ b
  · rw [if_pos c1]
    exact ⟨fun h => by omega, fun h => by omega⟩
  rw [if_neg c1]
  by_cases c2 : ltr (lc L b) = true
  · rw [if_pos c2]
    by_cases c3 : tlen L b ≤ 8
    · rw [if_pos c3]; exact ⟨fun _ => ⟨by omega, c2, c3⟩, fun _ => rfl⟩
    · rw [if_neg c3]; exact ⟨fun h => by omega, fun h => absurd h.2.2 c3⟩
  · rw [if_neg c2]
    refine ⟨fun h => ?_, fun h => absurd h.2.1 c2⟩
    by_cases c3 : dgt (lc L b) = true
    · rw [if_pos c3] at h
      split at h <;> omega
    · rw [if_neg c3] at h
      split at h <;> omega
theorem tk_w {L : List Nat} {b : Nat} (h : isW L b) : tk L b = kw (vk 256 0 L b (tlen L b)) := by
  unfold tk
  rw [if_neg (by have := h.1; omega), if_pos h.2.1, if_pos h.2.2]
theorem kw_rng (v : Nat) : 3 ≤ kw v ∧ kw v ≤ 8 := by
  unfold kw
  repeat' split
  all_goals omega
theorem w_tk {L : List Nat} {b : Nat} : isW L b ↔ 3 ≤ tk L b ∧ tk L b ≤ 8 := ⟨fun h => by rw [tk_w h]; exact kw_rng _, fun h => tk_word h⟩
theorem rt_2 {L : List Nat} {b : Nat} : rt L b = 2 ↔ tk L b = 2 := by
  by_cases hw : isW L b
  · have h1 := rt_w.mpr hw
    have h2 := w_tk.mp hw
    exact ⟨fun h => by omega, fun h => by omega⟩
  · have h1 : ¬ rt L b = 1 := fun q => hw (rt_w.mp q)
    have h2 : ¬ (3 ≤ tk L b ∧ tk L b ≤ 8) := fun q => hw (w_tk.mpr q)
    unfold rt tk at *
    by_cases c1 : L.length ≤ b
    · rw [if_pos c1, if_pos c1]
    rw [if_neg c1, if_neg c1] at *
    by_cases c2 : ltr (lc L b) = true
    · rw [if_pos c2, if_pos c2] at *
      by_cases c3 : tlen L b ≤ 8
      · rw [if_pos c3] at h1; exact absurd rfl h1
      · rw [if_neg c3, if_neg c3]; exact ⟨fun h => by omega, fun h => by omega⟩
    · rw [if_neg c2, if_neg c2] at *
      by_cases c3 : dgt (lc L b) = true
      · rw [if_pos c3, if_pos c3] at *
        by_cases c4 : tlen L b ≤ 4
        · rw [if_pos c4, if_pos c4]
        · rw [if_neg c4, if_neg c4]; exact ⟨fun h => by omega, fun h => by omega⟩
      · rw [if_neg c3, if_neg c3] at *
        by_cases c4 : sgC (lc L b) = true
        · rw [if_pos c4, if_pos c4]
          rw [sgC_is] at c4
          exact ⟨fun h => by omega, fun h => by omega⟩
        · rw [if_neg c4, if_neg c4]; exact ⟨fun h => by omega, fun h => by omega⟩
/-- a sign -/
theorem rt_3 {L : List Nat} {b c : Nat} (hc : 9 ≤ c) : (rt L b = 3 ∧ lc L b = c) ↔ tk L b = c := by
  unfold rt tk
  by_cases c1 : L.length ≤ b
  · rw [if_pos c1, if_pos c1]; exact ⟨fun h => by omega, fun h => by omega⟩
  rw [if_neg c1, if_neg c1]
  by_cases c2 : ltr (lc L b) = true
  · rw [if_pos c2, if_pos c2]
    have := kw_rng (vk 256 0 L b (tlen L b))
    by_cases c3 : tlen L b ≤ 8
    · rw [if_pos c3, if_pos c3]; exact ⟨fun h => by omega, fun h => by omega⟩
    · rw [if_neg c3, if_neg c3]; exact ⟨fun h => by omega, fun h => by omega⟩
  · rw [if_neg c2, if_neg c2]
    by_cases c3 : dgt (lc L b) = true
    · rw [if_pos c3, if_pos c3]
      by_cases c4 : tlen L b ≤ 4
      · rw [if_pos c4, if_pos c4]; exact ⟨fun h => by omega, fun h => by omega⟩
      · rw [if_neg c4, if_neg c4]; exact ⟨fun h => by omega, fun h => by omega⟩
    · rw [if_neg c3, if_neg c3]
      by_cases c4 : sgC (lc L b) = true
      · rw [if_pos c4, if_pos c4]; exact ⟨fun h => h.2, fun h => ⟨rfl, h⟩⟩
      · rw [if_neg c4, if_neg c4]; exact ⟨fun h => by omega, fun h => by omega⟩
theorem rt_0 {L : List Nat} {b : Nat} : rt L b = 0 ↔ L.length ≤ b := by
  unfold rt
  by_cases c1 : L.length ≤ b
  · rw [if_pos c1]; exact ⟨fun _ => c1, fun _ => rfl⟩
  rw [if_neg c1]
  refine ⟨fun h => ?_, fun h => absurd h c1⟩
  revert h
  repeat' split
  all_goals omega
theorem rt_lt (L : List Nat) (b : Nat) : rt L b < 5 := by
  unfold rt
  repeat' split
  all_goals omega
/-- the reference's code of a word, and the class's -/
theorem cw_w {L : List Nat} {b : Nat} (h : isW L b) (W : List Nat) (hW : ∀ j, j < W.length → ltr (lc W (0 + j)) = true) : cw L b = vk 27 96 W 0 W.length ↔ vk 256 0 L b (tlen L b) = vk 256 0 W 0 W.length :=
  ⟨fun e => vk_inj (by decide) (by decide) _ _ (te_all h.1 h.2.1) hW e, fun e => vk_inj (by decide) (by decide) _ _ (te_all h.1 h.2.1) hW e⟩
theorem cw_4 {L : List Nat} {b : Nat} (h : isW L b) : cw L b = 63030 ↔ vk 256 0 L b (tlen L b) = 1667591276 := cw_w h [99, 101, 108, 108] (by decide)
theorem cw_5 {L : List Nat} {b : Nat} (h : isW L b) : cw L b = 358040 ↔ vk 256 0 L b (tlen L b) = 1919247220 := cw_w h [114, 101, 99, 116] (by decide)
theorem cw_6 {L : List Nat} {b : Nat} (h : isW L b) : cw L b = 240373 ↔ vk 256 0 L b (tlen L b) = 1818588019 := cw_w h [108, 101, 115, 115] (by decide)
theorem cw_7 {L : List Nat} {b : Nat} (h : isW L b) : cw L b = 8903 ↔ vk 256 0 L b (tlen L b) = 7103860 := cw_w h [108, 101, 116] (by decide)
theorem cw_8 {L : List Nat} {b : Nat} (h : isW L b) : cw L b = 99233 ↔ vk 256 0 L b (tlen L b) = 1700881256 := cw_w h [101, 97, 99, 104] (by decide)
/-- the class's kind of a word, by the reference's code -/
theorem tk_cw {L : List Nat} {b : Nat} (h : isW L b) : tk L b = if cw L b = 63030 then 4 else if cw L b = 358040 then 5 else if cw L b = 240373 then 6 else if cw L b = 8903 then 7 else if cw L b = 99233 then 8 else 3 := by
  rw [tk_w h]
  unfold kw
  simp only [cw_4 h, cw_5 h, cw_6 h, cw_7 h, cw_8 h]
theorem cw_63 {L : List Nat} {b : Nat} (h : isW L b) : cw L b < 2 ^ 63 := by
  have a := vk_lt (m := 27) (o := 96) (L := L) (b := b) (by decide) (tlen L b) (fun j hj => by
    have := te_all h.1 h.2.1 j hj
    unfold ltr at this
    simp only [Bool.and_eq_true, decide_eq_true_eq] at this
    omega)
  exact Nat.lt_of_lt_of_le a (Nat.le_trans (Nat.pow_le_pow_right (by decide) h.2.2) (by decide))
theorem sp_isWord {g : GV} {d b n : Nat} {L : List Nat} {σ : PS} (hL : Lay σ) (hX : RT σ L b) (hn : n < 2 ^ 63) : CX12_isWord g d [.ref 179, .long (lN n)] σ (fun v s => v = (if rt L b = 1 ∧ cw L b = n then 1 else 0) ∧ s = σ) := by
  have hr := rt_lt L b
  refine vcX12_isWord hL _ ?_
  rw [hX.2.2.1, lit32 1, zEQ (by omega) (by omega)]
  refine ⟨fun h => ⟨?_, rfl⟩, fun h => ?_⟩
  · rw [if_neg (fun q => h q.1)]
  · have hw := rt_w.mp h
    rw [hX.2.2.2.1 h, lg0, pk_lEQ (cw_63 hw) hn]
    exact ⟨fun q => ⟨by rw [if_neg (fun z => q z.2)], rfl⟩, fun q => ⟨by rw [if_pos ⟨h, q⟩], rfl⟩⟩
theorem sp_isSign {g : GV} {d b c : Nat} {L : List Nat} {σ : PS} (hL : Lay σ) (hT : TX σ L) (hX : RT σ L b) (hc : 9 ≤ c) (hc2 : c < 127) : CX12_isSign g d [.ref 179, .int (nI c)] σ (fun v s => v = (if tk L b = c then 1 else 0) ∧ s = σ) := by
  have hr := rt_lt L b
  have hl := hT.2.1
  have h3 := rt_3 (L := L) (b := b) hc
  refine vcX12_isSign hL _ ?_
  rw [hX.2.2.1, lit32 3, zEQ (by omega) (by omega)]
  refine ⟨fun h => ⟨?_, rfl⟩, fun h => ?_⟩
  · rw [if_neg (fun q => h (h3.mpr q).1)]
  · have hb : b < L.length := Nat.lt_of_not_le (fun q => by rw [rt_0.mpr q] at h; omega)
    have h1 := lc_lt hT b
    rw [hX.1, zIN (by omega) (by omega), zCL (by omega), (hT.2.2 b hb).1, zEQ (by omega) (by omega)]
    exact ⟨by omega, fun q => ⟨by rw [if_neg (fun z => q (h3.mpr z).2)], rfl⟩, fun q => ⟨by rw [if_pos (h3.mp ⟨h, q⟩)], rfl⟩⟩
theorem sp_isKept {g : GV} {d b : Nat} {L : List Nat} {σ : PS} (hL : Lay σ) (hX : RT σ L b) : CX12_isKept g d [.ref 179] σ (fun v s => v = (if tk L b = 3 then 0 else 1) ∧ s = σ) := by
  have hr := rt_lt L b
  refine vcX12_isKept hL ?_
  rw [hX.2.2.1, lit32 1, zEQ (by omega) (by omega)]
  refine ⟨fun h => ?_, fun h => ⟨?_, rfl⟩⟩
  · have hw := rt_w.mp h
    have e : ∀ k : Nat, k < 2 ^ 63 → ((lg_cmp (lN (cw L b)) (OfNat.ofNat k) = 0) = (cw L b = k)) := fun k hk => propext (by rw [litL, lg0, pk_lEQ (cw_63 hw) hk])
    rw [hX.2.2.2.1 h, e 63030 (by decide), e 358040 (by decide), e 240373 (by decide), e 8903 (by decide), e 99233 (by decide), tk_cw hw]
    refine ⟨fun h1 => ⟨?_, rfl⟩, fun h1 => ⟨fun h2 => ⟨?_, rfl⟩, fun h2 => ⟨fun h3 => ⟨?_, rfl⟩, fun h3 => ⟨fun h4 => ⟨?_, rfl⟩, fun h4 => ⟨fun h5 => ⟨?_, rfl⟩, fun h5 => ⟨?_, rfl⟩⟩⟩⟩⟩⟩
    · rw [if_pos h1]; rfl
    · rw [if_neg h1, if_pos h2]; rfl
    · rw [if_neg h1, if_neg h2, if_pos h3]; rfl
    · rw [if_neg h1, if_neg h2, if_neg h3, if_pos h4]; rfl
    · rw [if_neg h1, if_neg h2, if_neg h3, if_neg h4, if_neg h5]; rfl
    · rw [if_neg h1, if_neg h2, if_neg h3, if_neg h4, if_pos h5]; rfl
  · rw [if_neg (fun q => h (rt_w.mpr (w_tk.mpr (by omega))))]
