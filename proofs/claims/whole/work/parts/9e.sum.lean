/-! ===== the class's part and sum ===== -/
/-- what comes of a part or a sum, from token i on -/
def PP (L : List Nat) (r : ER) (v : Int32) (s : PS) : Prop := (∃ u j, r = .inl (u, j) ∧ v = u ∧ mi s 16 5 = nI j ∧ mi s 16 6 = 0 ∧ j ≤ nt L) ∨ (∃ k j, r = .inr (k, j) ∧ mi s 16 6 = nI (k + 16 * tb L j) ∧ 1 ≤ k ∧ k ≤ 5 ∧ j ≤ nt L)
theorem PP.bad {L : List Nat} {k j : Nat} {s : PS} (h : mi s 16 6 = nI (k + 16 * tb L j)) (hk : 1 ≤ k) (hk5 : k ≤ 5) (hl : L.length ≤ 1000) : ¬ mi s 16 6 = 0 := by
  have := tb_le L j
  rw [h, lit32 0, zEQ (by omega) (by omega)]
  omega
theorem tk_lt {σ : PS} {L : List Nat} (hc : ∀ i, lc L i < 127) (b : Nat) : tk L b < 1000 := by
  unfold tk
  have := hc b
  have := kw_lt (vk 256 0 L b (tlen L b))
  split
  · omega
  · split
    · split <;> omega
    · split
      · split <;> omega
      · split <;> omega
theorem tv_lt {L : List Nat} {b : Nat} (h : tk L b = 2) : tv L b < 10000 := by
  unfold tk at h
  by_cases c1 : L.length ≤ b
  · rw [if_pos c1] at h; omega
  rw [if_neg c1] at h
  by_cases c2 : ltr (lc L b) = true
  · rw [if_pos c2] at h
    have := kw_lt (vk 256 0 L b (tlen L b))
    split at h <;> omega
  · rw [if_neg c2] at h
    by_cases c3 : dgt (lc L b) = true
    · rw [if_pos c3] at h
      by_cases c4 : tlen L b ≤ 4
      · unfold tv
        rw [if_neg c2, if_pos c3, if_pos c4]
        have a := vk_lt (m := 10) (o := 48) (L := L) (b := b) (by decide) (tlen L b) (fun j hj => by have := dgt_is.mp (te_dig (by omega) (by simpa using c2) c3 j (by omega)); omega)
        exact Nat.lt_of_lt_of_le a (Nat.le_trans (Nat.pow_le_pow_right (by decide) c4) (by decide))
      · rw [if_neg c4] at h; omega
    · rw [if_neg c3] at h
      by_cases c4 : sgC (lc L b) = true
      · rw [if_pos c4] at h
        rw [sgC_is] at c4
        omega
      · rw [if_neg c4] at h; omega
theorem sp_sumpart {g : GV} {d told : Nat} {L : List Nat} {nm : Nat → Nat} {env : Nat → Int32} (hc : ∀ i, lc L i < 127) : ∀ (f : Nat),
    (∀ (w i D : Nat) (τ : PS), w ≤ 5 → D = d + 2 * (6 - w) → i ≤ nt L → 2 * (nt L - i) + 1 ≤ f → Lay τ → RS τ L told nm → mi τ 16 5 = nI i → mi τ 16 6 = 0 → (∀ k, k < told → mi τ 19 k = env k) →
      CX7_part g D [.ref 16, .int (nI w)] τ (fun v s => PP L (pe (tK L) (tV L) (fun i => slt nm told (tC L i)) env f none w i) v s ∧ Ch chAF noL τ s)) ∧
    (∀ (w i D c : Nat) (t s p : Int32) (τ : PS) (P : Int32 → PS → Prop), w ≤ 5 → D = d + 2 * (6 - w) → i ≤ nt L → 2 * (nt L - i) + 1 ≤ f → c ≤ i → Lay τ → RS τ L told nm → mi τ 16 5 = nI i → mi τ 16 6 = 0 → (∀ k, k < told → mi τ 19 k = env k) → (∀ v s', PP L (pe (tK L) (tV L) (fun i => slt nm told (tC L i)) env f (some (t, s, p)) w i) v s' → Ch chAF noL τ s' → P v s') →
      VX7_sum g (D + 1) P 14 [some (.ref 16), some (.int (nI w)), some (.int t), some (.int s), some (.int p), some (.int (nI c)), none] [] τ) := by
  intro f
  induction f with
  | zero => exact ⟨fun w i D τ _ _ _ h => by omega, fun w i D c t s p τ P _ _ _ h => by omega⟩
  | succ f ih =>
    obtain ⟨ih1, ih2⟩ := ih
    have ok := fun f => pe_ok (V := tV L) (sl := fun i => slt nm told (tC L i)) (env := env) (tK_N L) f
    constructor
    · -- a part
      intro w i D τ hw hD hi hf hL hR hat h0 hE
      have hn := nt_le (L := L)
      have hl := hR.2.2.1
      obtain ⟨e, rfl⟩ : ∃ e, D = e + 1 := ⟨D - 1, by omega⟩
      have hk1000 : tK L i < 1000 := tk_lt (σ := τ) hc (tb L i)
      refine vcX7_part hL hR.1 _ ⟨fun _ x1 e1 => ?_, fun h => absurd h0 h⟩
      rw [hat] at e1
      refine Ct.imp (sp_kind7 hL hR hat hi) (fun r s3 q => ?_)
      obtain ⟨v4, rfl, rfl, rfl⟩ := q
      refine ⟨_, rfl, Fr.rf, ?_⟩
      rw [e1, lit32 2, lit32 3, lit32 40, zEQ (show tK L i < 2147483648 by omega) (by omega), zEQ (show tK L i < 2147483648 by omega) (by omega), zEQ (show tK L i < 2147483648 by omega) (by omega), pe_n]
      have failed : ∀ (k : Nat) (u : PS), 1 ≤ k → k ≤ 5 → mi u 16 6 = nI (k + 16 * tb L i) → Ch chAF noL s3 u → PP L (.inr (k, i)) 0 u ∧ Ch chAF noL s3 u := fun k u a b c1 c2 => ⟨Or.inr ⟨k, i, rfl, c1, a, b, hi⟩, c2⟩
      have body : (tK L i = 2 ∨ tK L i = 3 ∨ tK L i = 40) → VX7_part g (e + 1) (fun v s => PP L (if ¬ (tK L i = 2 ∨ tK L i = 3 ∨ tK L i = 40) then .inr (1, i) else if tK L i = 3 ∧ slt nm told (tC L i) = none then .inr (2, i) else if 5 ≤ w then .inr (5, i) else if tK L i = 2 then .inl (tV L i, i + 1) else if tK L i = 3 then .inl (env ((slt nm told (tC L i)).getD 0), i + 1) else bnd (bnd (pe (tK L) (tV L) (fun i => slt nm told (tC L i)) env f none (w + 1) (i + 1)) (fun v j => pe (tK L) (tV L) (fun i => slt nm told (tC L i)) env f (some (0, 1, v)) (w + 1) j)) (fun u j => if tK L j = 41 then .inl (u, j + 1) else .inr (1, j))) v s ∧ Ch chAF noL s3 s) 43 [some (.ref 16), some (.int (nI w)), some (.int (nI i)), some (.int (nI (tK L i))), none, none] [] s3 := by
        intro hk
        have hlt : i < nt L := tK_N L i (by omega)
        rw [if_neg (fun h => h hk)]
        have at1 : ∀ u : PS, u = si s3 16 5 (mi s3 16 5 + 1) → mi u 16 5 = nI (i + 1) ∧ mi u 16 6 = 0 ∧ Ch chAF noL s3 u := by
          intro u eu
          rw [hat, inc rfl] at eu
          exact ⟨by rw [eu, mi_si, if_pos ⟨rfl, rfl⟩], by rw [eu, mi_si, if_neg (by omega)]; exact h0, by rw [eu]; exact Ch.rf.si ⟨rfl, Or.inl rfl⟩⟩
        refine vcX7_part_43 hL hR.1 _ _ _ ⟨fun hn3 => ?_, fun h3 => ?_⟩
        · rw [lit32 3, zEQ (by omega) (by omega)] at hn3
          rw [if_neg (fun h => hn3 h.1), lit32 5, zLT (by omega) (by omega)]
          refine ⟨fun hw5 s7 e7 => ?_, fun hw5 => ?_⟩
          · rw [if_neg (by omega)]
            obtain ⟨u1, u2, u3⟩ := at1 s7 e7
            have hL7 := u3.lay hL
            have hR7 := hR.af u3
            rw [lit32 2, lit32 3, zEQ (by omega) (by omega), zEQ (by omega) (by omega)]
            refine ⟨fun h2 => ⟨fun _ => ?_, fun h => absurd h hn3⟩, fun h2 => ?_⟩
            · rw [if_neg h2, if_neg hn3]
              have h40 : tK L i = 40 := by omega
              have hsum : CX7_sum g e [.ref 16, .int (nI (w + 1))] s7 (fun v s => PP L (bnd (pe (tK L) (tV L) (fun i => slt nm told (tC L i)) env f none (w + 1) (i + 1)) (fun v j => pe (tK L) (tV L) (fun i => slt nm told (tC L i)) env f (some (0, 1, v)) (w + 1) j)) v s ∧ Ch chAF noL s7 s) := by
                obtain ⟨e2, rfl⟩ : ∃ e2, e = e2 + 1 := ⟨e - 1, by omega⟩
                refine vcX7_sum hL7 hR7.1 _ (Ct.imp (ih1 (w + 1) (i + 1) e2 s7 (by omega) (by omega) (by omega) (by omega) hL7 hR7 u1 u2 (fun k hk => by rw [u3.i (by omega)]; exact hE k hk)) (fun r s1 q => ?_))
                obtain ⟨v2, rfl, hp, c1⟩ := q
                have hL1 := c1.lay hL7
                have hR1 := hR7.af c1
                obtain ⟨ok1, ok2⟩ := ok f none (w + 1) (i + 1) (by omega) (by omega)
                refine ⟨_, rfl, c1.fr, ?_⟩
                rcases hp with ⟨u, j, er, rfl, a1, a2, a3⟩ | ⟨k, j, er, a1, a2, a3, a4⟩
                · obtain ⟨o1, o2, o3⟩ := ok1 _ j er
                  have o4 := o3 rfl
                  rw [er, bnd_l]
                  refine ih2 (w + 1) j e2 0 0 1 v2 s1 _ (by omega) (by omega) a3 (by omega) (Nat.zero_le _) hL1 hR1 a1 a2 (fun k hk => by rw [c1.i (by omega), u3.i (by omega)]; exact hE k hk) (fun v s' q1 q2 => ⟨q1, c1.trans q2⟩)
                · have hbad := PP.bad a1 a2 a3 hl
                  rw [er, bnd_r]
                  refine vcX7_sum_14 hL1 hR1.1 _ _ _ _ _ ⟨fun _ => ⟨Or.inr ⟨k, j, rfl, a1, a2, a3, a4⟩, c1⟩, fun _ => ⟨fun _ => ⟨Or.inr ⟨k, j, rfl, a1, a2, a3, a4⟩, c1⟩, fun h => absurd h hbad⟩⟩
              rw [show nI w + 1 = nI (w + 1) from nI_1 w]
              refine Ct.imp hsum (fun r s9 q => ?_)
              obtain ⟨v10, rfl, hp, c9⟩ := q
              have hL9 := c9.lay hL7
              have hR9 := hR7.af c9
              refine ⟨_, rfl, c9.fr, ?_⟩
              obtain ⟨e2, rfl⟩ : ∃ e2, e = e2 + 1 := ⟨e - 1, by omega⟩
              rcases hp with ⟨u, j, er, rfl, a1, a2, a3⟩ | ⟨k, j, er, a1, a2, a3, a4⟩
              · rw [er, bnd_l]
                have hkj : tK L j < 1000 := tk_lt (σ := s9) hc (tb L j)
                refine Ct.imp (sp_expect7 (d := e2) (c := 41) hL9 hR9 a1 a3 a2 (by omega) hkj) (fun r s11 q => ?_)
                obtain ⟨rfl, b1, b2, c11⟩ := q
                refine ⟨rfl, c11.fr, ?_, (u3.trans c9).trans c11⟩
                by_cases h41 : tK L j = 41
                · rw [if_pos h41]
                  have := tK_N L j (by omega)
                  exact Or.inl ⟨_, _, rfl, rfl, (b1 h41).1, (b1 h41).2, by omega⟩
                · rw [if_neg h41]
                  exact Or.inr ⟨1, j, rfl, b2 h41, by omega, by omega, a3⟩
              · rw [er, bnd_r]
                have hbad := PP.bad a1 a2 a3 hl
                refine Ct.imp (sp_expect7f (d := e2) hL9 hR9 hbad) (fun r s11 q => ?_)
                obtain ⟨rfl, b1, c11⟩ := q
                exact ⟨rfl, c11.fr, Or.inr ⟨k, j, rfl, b1.trans a1, a2, a3, a4⟩, (u3.trans c9).trans (c11.mono (fun a k h => ⟨h.1, Or.inl h.2⟩) (fun _ _ h => h))⟩
            · rw [if_pos h2, zIN (by omega) (by omega), zCL (by omega), u3.l (fun h => h), hR.2.1.2.2 i hlt, lN_i]
              exact ⟨by omega, Or.inl ⟨_, _, rfl, rfl, u1, u2, by omega⟩, u3⟩
          · rw [if_pos (by omega)]
            refine Ct.imp (sp_fail7 (k := 5) hL hR hi h0) (fun r s5 q => ?_)
            obtain ⟨rfl, k1, k2⟩ := q
            exact ⟨rfl, k2.fr, failed 5 s5 (by omega) (by omega) k1 k2⟩
        · rw [lit32 3, zEQ (by omega) (by omega)] at h3
          have hW := tk_word (L := L) (b := tb L i) (by change tk L (tb L i) = 3 at h3; omega)
          refine Ct.imp (sp_slotOf hL hR hlt hW) (fun r s16 q => ?_)
          obtain ⟨v17, rfl, rfl, rfl⟩ := q
          have h8 := hR.2.2.2.2.1
          have hsl : ∀ k, slt nm told (tC L i) = some k → k < told := fun k hk => fnd_lt hk
          refine ⟨_, rfl, Fr.rf, ?_⟩
          rw [oI_m1 (n := 9) (fun k hk => by have := hsl k hk; omega) (by omega)]
          refine ⟨fun hsome => ?_, fun hnone => ?_⟩
          · obtain ⟨k, hk⟩ := Option.ne_none_iff_exists'.mp hsome
            have hkt := hsl k hk
            rw [if_neg (fun h => hsome h.2), lit32 5, zLT (by omega) (by omega)]
            refine ⟨fun hw5 s18 e18 => ?_, fun hw5 => ?_⟩
            · rw [if_neg (by omega)]
              obtain ⟨u1, u2, u3⟩ := at1 s18 e18
              rw [lit32 2, lit32 3, zEQ (by omega) (by omega), zEQ (by omega) (by omega), hk]
              refine ⟨fun h2 => ⟨fun h => absurd h3 h, fun _ => ?_⟩, fun h2 => by omega⟩
              rw [if_neg h2, if_pos h3]
              show vp_in (nI k) 8 ∧ _
              rw [zIN (by omega) (by omega)]
              show k < 8 ∧ (PP L _ (mi s18 19 (Int32.toNatClampNeg (nI k))) s18 ∧ _)
              rw [zCL (by omega), u3.i (by omega), hE k hkt]
              exact ⟨by omega, Or.inl ⟨_, _, rfl, rfl, u1, u2, by omega⟩, u3⟩
            · rw [if_pos (by omega)]
              refine Ct.imp (sp_fail7 (k := 5) hL hR hi h0) (fun r s5 q => ?_)
              obtain ⟨rfl, k1, k2⟩ := q
              exact ⟨rfl, k2.fr, failed 5 s5 (by omega) (by omega) k1 k2⟩
          · rw [if_pos ⟨h3, hnone⟩]
            refine Ct.imp (sp_fail7 (k := 2) hL hR hi h0) (fun r s5 q => ?_)
            obtain ⟨rfl, k1, k2⟩ := q
            exact ⟨rfl, k2.fr, failed 2 s5 (by omega) (by omega) k1 k2⟩
      refine ⟨fun h => body (Or.inl h), fun h => ⟨fun h2 => body (Or.inr (Or.inl h2)), fun h2 => ⟨fun h3 => body (Or.inr (Or.inr h3)), fun h3 => ?_⟩⟩⟩
      rw [if_pos (by omega)]
      refine Ct.imp (sp_fail7 (k := 1) hL hR hi h0) (fun r s5 q => ?_)
      obtain ⟨rfl, k1, k2⟩ := q
      exact ⟨rfl, k2.fr, failed 1 s5 (by omega) (by omega) k1 k2⟩
    · -- behind a product
      intro w i D c t s p τ P hw hD hi hf hci hL hR hat h0 hE hP
      have hn := nt_le (L := L)
      have hl := hR.2.2.1
      have hk1000 : tK L i < 1000 := tk_lt (σ := τ) hc (tb L i)
      rw [pe_s] at hP
      dsimp only at hP
      -- an operator: a part, and on
      have op : tK L i ≠ 0 → ∀ (s5 : PS), s5 = si τ 16 5 (mi τ 16 5 + 1) → ∀ (G : Int32 → Int32 × Int32 × Int32), (∀ v s', PP L (bnd (pe (tK L) (tV L) (fun i => slt nm told (tC L i)) env f none w (i + 1)) (fun v j => pe (tK L) (tV L) (fun i => slt nm told (tC L i)) env f (some (G v)) w j)) v s' → Ch chAF noL τ s' → P v s') → CX7_part g D [.ref 16, .int (nI w)] s5 (fun (v : Int32) (s9 : PS) => Fr s5 s9 ∧ ∀ x11 : Int32, x11 = nI c + 1 → VX7_sum g (D + 1) P 14 [some (.ref 16), some (.int (nI w)), some (.int (G v).1), some (.int (G v).2.1), some (.int (G v).2.2), some (.int x11), none] [] s9) := by
        intro hne s5 e5 G hG
        have hlt := tK_N L i hne
        rw [hat, inc rfl] at e5
        have u1 : mi s5 16 5 = nI (i + 1) := by rw [e5, mi_si, if_pos ⟨rfl, rfl⟩]
        have u2 : mi s5 16 6 = 0 := by rw [e5, mi_si, if_neg (by omega)]; exact h0
        have u3 : Ch chAF noL τ s5 := by rw [e5]; exact Ch.rf.si ⟨rfl, Or.inl rfl⟩
        have hL5 := u3.lay hL
        have hR5 := hR.af u3
        obtain ⟨ok1, ok2⟩ := ok f none w (i + 1) (by omega) (by omega)
        refine Ct.imp (ih1 w (i + 1) D s5 hw hD (by omega) (by omega) hL5 hR5 u1 u2 (fun k hk => by rw [u3.i (by omega)]; exact hE k hk)) (fun r s9 q => ?_)
        obtain ⟨v, rfl, hp, c9⟩ := q
        have hL9 := c9.lay hL5
        have hR9 := hR5.af c9
        refine ⟨_, rfl, c9.fr, fun x11 e11 => ?_⟩
        rw [inc e11]
        rcases hp with ⟨u, j, er, rfl, a1, a2, a3⟩ | ⟨k, j, er, a1, a2, a3, a4⟩
        · obtain ⟨o1, o2, o3⟩ := ok1 _ j er
          have o4 := o3 rfl
          rw [er, bnd_l] at hG
          exact ih2 w j D (c + 1) (G v).1 (G v).2.1 (G v).2.2 s9 P hw hD a3 (by omega) (by omega) hL9 hR9 a1 a2 (fun k hk => by rw [c9.i (by omega), u3.i (by omega)]; exact hE k hk) (fun v' s' q1 q2 => hG v' s' q1 ((u3.trans c9).trans q2))
        · have hbad := PP.bad a1 a2 a3 hl
          rw [er, bnd_r] at hG
          exact vcX7_sum_14 hL9 hR9.1 _ _ _ _ _ ⟨fun _ => hG _ _ (Or.inr ⟨k, j, rfl, a1, a2, a3, a4⟩) (u3.trans c9), fun _ => ⟨fun _ => hG _ _ (Or.inr ⟨k, j, rfl, a1, a2, a3, a4⟩) (u3.trans c9), fun h => absurd h hbad⟩⟩
      refine vcX7_sum_14 hL hR.1 _ _ _ _ _ ⟨fun h => ?_, fun _ => ⟨fun h => absurd h0 h, fun _ => ?_⟩⟩
      · rw [hR.2.1.1, zLT (by omega) (by omega)] at h
        omega
      · refine Ct.imp (sp_kind7 hL hR hat hi) (fun r s3 q => ?_)
        obtain ⟨v4, rfl, rfl, rfl⟩ := q
        refine ⟨_, rfl, Fr.rf, ?_⟩
        rw [lit32 42, lit32 43, lit32 45, zEQ (show tK L i < 2147483648 by omega) (by omega), zEQ (show tK L i < 2147483648 by omega) (by omega), zEQ (show tK L i < 2147483648 by omega) (by omega)]
        refine ⟨fun h42 => ⟨fun h43 s5 e5 x7 e7 => ⟨fun h => absurd h43 h, fun _ => ?_⟩, fun h43 => ⟨fun h45 => ?_, fun h45 s5 e5 x7 e7 => ⟨fun _ => ?_, fun h => absurd h h43⟩⟩⟩, fun h42 s5 e5 => ?_⟩
        · rw [if_neg h42, if_pos (Or.inl h43), if_pos h43] at hP
          rw [e7]
          exact op (by omega) s5 e5 (fun v => (t + s * p, 1, v)) hP
        · rw [if_neg h42, if_neg (by omega)] at hP
          exact hP _ _ (Or.inl ⟨_, _, rfl, rfl, hat, h0, hi⟩) Ch.rf
        · rw [if_neg h42, if_pos (Or.inr h45), if_neg h43] at hP
          rw [e7]
          exact op (by omega) s5 e5 (fun v => (t + s * p, -1, v)) hP
        · rw [if_pos h42] at hP
          refine Ct.imp (op (by omega) s5 e5 (fun v => (t, s, p * v)) hP) (fun r s9 q => ?_)
          obtain ⟨v, rfl, q1, q2⟩ := q
          exact ⟨_, rfl, q1, fun x33 e33 x35 e35 => by rw [e33]; exact q2 x35 e35⟩
/-- the fuel of a text -/
def fu (L : List Nat) : Nat := 2 * nt L + 1
def smL (L : List Nat) (told : Nat) (nm : Nat → Nat) (env : Nat → Int32) (i : Nat) : ER := sm (tK L) (tV L) (fun i => slt nm told (tC L i)) env (fu L) 0 i
theorem sp_sum {g : GV} {d told i : Nat} {L : List Nat} {nm : Nat → Nat} {env : Nat → Int32} {τ : PS} (hc : ∀ i, lc L i < 127) (hi : i ≤ nt L) (hL : Lay τ) (hR : RS τ L told nm) (hat : mi τ 16 5 = nI i) (h0 : mi τ 16 6 = 0) (hE : ∀ k, k < told → mi τ 19 k = env k) :
    CX7_sum g (d + 13) [.ref 16, .int 0] τ (fun v s => PP L (smL L told nm env i) v s ∧ Ch chAF noL τ s) := by
  obtain ⟨p1, p2⟩ := sp_sumpart (g := g) (d := d) (told := told) (nm := nm) (env := env) hc (fu L)
  have hl := hR.2.2.1
  obtain ⟨ok1, ok2⟩ := pe_ok (V := tV L) (sl := fun i => slt nm told (tC L i)) (env := env) (tK_N L) (fu L) none 0 i hi (by unfold fu; omega)
  refine vcX7_sum hL hR.1 _ (Ct.imp (p1 0 i (d + 12) τ (by omega) rfl hi (by unfold fu; omega) hL hR hat h0 hE) (fun r s1 q => ?_))
  obtain ⟨v2, rfl, hp, c1⟩ := q
  have hL1 := c1.lay hL
  have hR1 := hR.af c1
  refine ⟨_, rfl, c1.fr, ?_⟩
  unfold smL sm
  rcases hp with ⟨u, j, er, rfl, a1, a2, a3⟩ | ⟨k, j, er, a1, a2, a3, a4⟩
  · rw [er, bnd_l]
    exact p2 0 j (d + 12) 0 0 1 v2 s1 _ (by omega) rfl a3 (by unfold fu; omega) (Nat.zero_le _) hL1 hR1 a1 a2 (fun k hk => by rw [c1.i (by omega)]; exact hE k hk) (fun v s' q1 q2 => ⟨q1, c1.trans q2⟩)
  · have hbad := PP.bad a1 a2 a3 hl
    rw [er, bnd_r]
    exact vcX7_sum_14 hL1 hR1.1 _ _ _ _ _ ⟨fun _ => ⟨Or.inr ⟨k, j, rfl, a1, a2, a3, a4⟩, c1⟩, fun _ => ⟨fun _ => ⟨Or.inr ⟨k, j, rfl, a1, a2, a3, a4⟩, c1⟩, fun h => absurd h hbad⟩⟩
/-- a sum with a FAULT already -/
theorem sp_sumf {g : GV} {d : Nat} {w : Int32} {τ : PS} (hL : Lay τ) (hT : mr τ 16 4 = some 11) (h0 : ¬ mi τ 16 6 = 0) : CX7_sum g (d + 2) [.ref 16, .int w] τ (fun _ s => s = τ) := by
  refine vcX7_sum hL hT _ (vcX7_part hL hT _ ⟨fun h => absurd h h0, fun _ => ⟨Fr.rf, ?_⟩⟩)
  exact vcX7_sum_14 hL hT _ _ _ _ _ ⟨fun _ => rfl, fun _ => ⟨fun _ => rfl, fun h => absurd h h0⟩⟩
