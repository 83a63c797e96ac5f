/-! ===== the reference counts a net ===== -/
def hsM (k : Nat) : Nat := Int32.toNatClampNeg (Int64.toInt32 ((jlushr ((lN k ^^^ (jlushr (lN k) 31)) * 2654435761) 16) &&& 32767))
theorem hsM_is (k : Nat) : Int64.toInt32 ((jlushr ((lN k ^^^ (jlushr (lN k) 31)) * 2654435761) 16) &&& 32767) = nI (hsM k) ∧ hsM k < 32768 := by
  obtain ⟨m, hm, e⟩ := la_any (jlushr ((lN k ^^^ (jlushr (lN k) 31)) * 2654435761) 16)
  unfold hsM
  rw [e, litL 32767, la_and, lN_i]
  have : m &&& 32767 ≤ 32767 := Nat.and_le_right
  rw [zCL (by omega)]
  exact ⟨rfl, by omega⟩
def TbM (s : PS) (n : Nat) (S : List Nat) : Prop := mi s 179 75 = nI S.length ∧ GoS n S ∧ ∃ (tab : Nat → Option Nat) (ix : Nat → Nat), (∀ p, p < 32768 → (tab p = none → mi s 226 p = -1) ∧ ∀ k, tab p = some k → ix p < S.length ∧ mi s 226 p = nI (ix p) ∧ ml s 225 (ix p) = lN k) ∧ HT 32768 hsM tab S
theorem TbM.ch {s s' : PS} {n : Nat} {S : List Nat} {Pm Pl : Nat → Nat → Prop} (h : TbM s n S) (c : Ch Pm Pl s s') (h1 : ¬ Pm 179 75) (h2 : ∀ i, ¬ Pm 226 i) (h3 : ∀ i, ¬ Pl 225 i) : TbM s' n S := by
  obtain ⟨t1, t2, tab, ix, t3, t4⟩ := h
  exact ⟨by rw [c.i h1]; exact t1, t2, tab, ix, fun p hp => ⟨fun e => by rw [c.i (h2 p)]; exact (t3 p hp).1 e, fun k e => by rw [c.i (h2 p), c.l (h3 _)]; exact (t3 p hp).2 k e⟩, t4⟩
abbrev chCn : Nat → Nat → Prop := fun a i => a = 179 ∧ i = 75 ∨ a = 226 ∨ a = 228
abbrev chCl : Nat → Nat → Prop := fun a _ => a = 225
theorem cn_49 {g : GV} {d n k : Nat} {S : List Nat} {Q : PS → Prop} {τ : PS} (hL : Lay τ) (hn : 1 ≤ n ∧ n ≤ 8) (hS : TbM τ n S) (hk : inQ n k = true ∧ k < 2 ^ 57 ∧ 0 < k) (hgo : ∀ s, TbM s n (insK S k) → Ch chCn chCl τ s → Q s) :
    VX12_countsNet g (d + 1) Q 49 [some (.ref 179), some (.long (lN k)), none, some (.int (nI (hsM k)))] [] τ := by
  obtain ⟨h1, h2, tab, ix, h3, h4⟩ := hS
  have hlen := goS_len hn h2 hk
  have hS369 := q_len hn h2.1 (fun s hs => (h2.2 s hs).1)
  obtain ⟨e1, e2⟩ := hsM_is k
  have hin : S.length < 32768 ∨ k ∈ S := Or.inl (by omega)
  obtain ⟨j1, j2, j3, j4⟩ := ht_stop h4 e2 hin
  have loop : ∀ (z j : Nat), j + z = j1 → VX12_countsNet g (d + 1) Q 49 [some (.ref 179), some (.long (lN k)), none, some (.int (nI ((hsM k + j) % 32768)))] [] τ := by
    intro z
    induction z with
    | zero =>
      intro j hj
      have : j = j1 := by omega
      subst this
      have hp : (hsM k + j) % 32768 < 32768 := Nat.mod_lt _ (by decide)
      refine vcX12_countsNet_49 hL _ _ ?_
      rw [zIN (by omega) (by omega), zCL (by omega)]
      rcases j3 with j3 | j3
      · have hm1 := (h3 _ hp).1 j3
        have hno := ht_not h4 j3 j4
        rw [hm1]
        refine ⟨hp, fun _ => ⟨hp, fun _ => ⟨hp, fun s14 e14 => ?_⟩, fun q => absurd m1_lt q⟩, fun q => absurd m1_lt q⟩
        have h75 : mi s14 179 75 = nI S.length := by rw [e14, mi_si, if_neg (by omega)]; exact h1
        rw [h75, zIN (by omega) (by omega), zCL (by omega)]
        refine ⟨by omega, fun s17 e17 s19 e19 => ?_⟩
        have h75b : mi s17 179 75 = nI S.length := by rw [e17, mi_sj]; exact h75
        rw [h75b, inc rfl] at e19
        rw [h1] at e14
        have c19 : Ch chCn chCl τ s19 := by
          rw [e19]
          refine Ch.si ?_ (Or.inl ⟨rfl, rfl⟩)
          rw [e17]
          refine Ch.sj ?_ rfl
          rw [e14]
          exact (Ch.rf : Ch chCn chCl τ τ).si (Or.inr (Or.inl rfl))
        refine hgo s19 ?_ c19
        rw [insK_n hno]
        refine ⟨by rw [e19, mi_si, if_pos ⟨rfl, rfl⟩, List.length_append]; rfl, by have := h2.ins hk; rw [insK_n hno] at this; exact this, _, fun p => if p = (hsM k + j) % 32768 then S.length else ix p, fun p hpp => ?_, ht_put h4 (by omega) j2 j3 j4⟩
        by_cases e : p = (hsM k + j) % 32768
        · dsimp only
          rw [if_pos e, if_pos e]
          refine ⟨fun q => (nomatch q), fun k' q => ?_⟩
          cases q
          refine ⟨by rw [List.length_append, List.length_singleton]; omega, ?_, ?_⟩
          · rw [e19, mi_si, if_neg (by omega), e17, mi_sj, e14, mi_si, if_pos ⟨rfl, e⟩]
          · rw [e19, ml_si, e17, ml_sj, if_pos ⟨rfl, rfl⟩]
        · dsimp only
          rw [if_neg e, if_neg e]
          obtain ⟨g1, g2⟩ := h3 p hpp
          have g3 : mi s19 226 p = mi τ 226 p := by rw [e19, mi_si, if_neg (by omega), e17, mi_sj, e14, mi_si, if_neg (fun w => e w.2)]
          rw [g3]
          refine ⟨g1, fun k' q => ?_⟩
          obtain ⟨g4, g5, g6⟩ := g2 k' q
          refine ⟨by rw [List.length_append]; omega, g5, ?_⟩
          rw [e19, ml_si, e17, ml_sj, if_neg (by omega), e14, ml_si]
          exact g6
      · obtain ⟨g4, g5, g6⟩ := (h3 _ hp).2 k j3
        have hm := (h4.1 _ k hp j3).1
        have hneg : ¬ nI (ix ((hsM k + j) % 32768)) < 0 := by rw [lit32 0, zLT (by omega) (by omega)]; omega
        rw [g5]
        refine ⟨hp, fun q => absurd q hneg, fun _ => ⟨hp, ?_, fun _ => ⟨hp, fun q => absurd q hneg, fun _ => ?_⟩, fun q => ?_⟩⟩
        · rw [zIN (by omega) (by omega)]; omega
        · refine hgo τ ?_ Ch.rf
          rw [insK_y hm]
          exact ⟨h1, h2, tab, ix, h3, h4⟩
        · exfalso
          rw [zCL (by omega), g6] at q
          exact q (lg0.mpr rfl)
    | succ z ih =>
      intro j hj
      have hp : (hsM k + j) % 32768 < 32768 := Nat.mod_lt _ (by decide)
      obtain ⟨w1, w2⟩ := j4 j (by omega)
      cases hk' : tab ((hsM k + j) % 32768) with
      | none => exact absurd hk' w1
      | some k' =>
        obtain ⟨g4, g5, g6⟩ := (h3 _ hp).2 k' hk'
        obtain ⟨m1, -⟩ := h4.1 _ k' hp hk'
        obtain ⟨-, m2, m3⟩ := h2.2 k' m1
        have hne : k' ≠ k := fun e => w2 (by rw [hk', e])
        have hneg : ¬ nI (ix ((hsM k + j) % 32768)) < 0 := by rw [lit32 0, zLT (by omega) (by omega)]; omega
        refine vcX12_countsNet_49 hL _ _ ?_
        rw [zIN (by omega) (by omega), zCL (by omega), g5]
        refine ⟨hp, fun q => absurd q hneg, fun _ => ⟨hp, ?_, fun q => ?_, fun _ x32 e32 => ?_⟩⟩
        · rw [zIN (by omega) (by omega)]; omega
        · exfalso
          rw [zCL (by omega), g6, lg0, la_eq (by omega) (by omega)] at q
          exact hne q
        · rw [lit32 1, nI_add, lit32 32768, zREM (by omega) (by omega) (by omega), show ((hsM k + j) % 32768 + 1) % 32768 = (hsM k + (j + 1)) % 32768 by omega] at e32
          rw [e32]
          exact ih (j + 1) (by omega)
  have h0 := loop j1 0 (by omega)
  have hz : (hsM k + 0) % 32768 = hsM k := by rw [Nat.add_zero, Nat.mod_eq_of_lt e2]
  rw [hz] at h0
  exact h0
theorem la_min {a b : Nat} (ha : a < 2 ^ 63) (hb : b < 2 ^ 63) : jminL (lN a) (lN b) = lN (a - (a - b)) := by
  unfold jminL
  by_cases h : b < a
  · rw [if_pos (Int64.lt_iff_toInt_lt.mpr (by rw [la_t ha, la_t hb]; omega)), show a - (a - b) = b by omega]
  · rw [if_neg (fun q => h (by have := Int64.lt_iff_toInt_lt.mp q; rw [la_t ha, la_t hb] at this; omega)), show a - (a - b) = a by omega]
theorem sp_countsNet {g : GV} {d n : Nat} {P : Nat → PLc} {S : List Nat} {σ : PS} (hL : Lay σ) (hG : Grn P n) (hn8 : n ≤ 8) (hP0 : P 0 = (0, 0, 0)) (hF : Flt P n) (h35 : mi σ 179 35 = nI n) (hLy : ∀ c, c < n → mi σ 221 c = iI (P c).1 ∧ mi σ 222 c = iI (P c).2.1) (hS : TbM σ n S) :
    CX12_countsNet g (d + 1) [.ref 179] σ (fun s => TbM s n (insK S (keyP P n)) ∧ Ch chCn chCl σ s) := by
  generalize hQ : (fun (s : PS) => TbM s n (insK S (keyP P n)) ∧ Ch chCn chCl σ s) = Q
  have hn := hG.pos
  obtain ⟨k1, k2, -⟩ := key_rng hG hn8
  have hmsk : ∀ h, msk (cdE P n h) n < 2 ^ 57 := fun h => msk_lt n (Nat.le_refl _) (fun c hc => cdE_lt hG hn8 _ hc)
  have loop : ∀ (z k : Nat) (s : PS), k + z = 8 → 1 ≤ k → Ch chSp noL σ s → VX12_countsNet g (d + 1) Q 8 [some (.ref 179), some (.long (lN (mnU (fun w => msk (cdE P n w) n) (k - 1)))), none, some (.int (nI k))] [] s := by
    intro z
    induction z with
    | zero =>
      intro k s hz hk1 c
      have : k = 8 := by omega
      subst this
      refine vcX12_countsNet_8 (c.lay hL) _ _ ⟨fun _ x3 e3 => ?_, fun q => absurd (Int32.le_refl _) q⟩
      have hkey : mnU (fun w => msk (cdE P n w) n) (8 - 1) = keyP P n := rfl
      rw [hkey] at e3 ⊢
      rw [e3, (hsM_is (keyP P n)).1]
      refine cn_49 (S := S) (c.lay hL) ⟨hn, hn8⟩ (hS.ch c (by omega) (fun i => by omega) (fun i => id)) ⟨key_q hG hn8 hF, k1, k2⟩ (fun t h1 h2 => ?_)
      rw [← hQ]
      exact ⟨h1, (c.mono (fun a k h => by omega) (fun _ _ h => h.elim)).trans h2⟩
    | succ z ih =>
      intro k s hz hk1 c
      refine vcX12_countsNet_8 (c.lay hL) _ _ ⟨fun q => ?_, fun _ => ?_⟩
      · rw [lit32 8, zLE (by omega) (by omega)] at q
        omega
      refine Ct.imp (sp_turnedBy (w := k) (c.lay hL) hG hn8 hP0 (by rw [c.i (by omega)]; exact h35) (fun e he => by rw [c.i (by omega), c.i (by omega)]; exact hLy e he) (by omega)) (fun r s5 w => ?_)
      obtain ⟨v, rfl, rfl, c5⟩ := w
      refine ⟨_, rfl, c5.fr, fun x7 e7 x9 e9 => ?_⟩
      have hmu : mnU (fun w => msk (cdE P n w) n) (k - 1) < 2 ^ 57 := by
        obtain ⟨⟨u, u1, u2⟩, -⟩ := mnU_is (fun w => msk (cdE P n w) n) (k - 1)
        rw [u2]; exact hmsk u
      have hvk := hmsk k
      rw [la_min (by omega) (by omega)] at e7
      rw [inc e9, e7]
      have := ih (k + 1) s5 (by omega) (by omega) (c.trans c5)
      rw [Nat.add_sub_cancel] at this
      have hs : mnU (fun w => msk (cdE P n w) n) k = mnU (fun w => msk (cdE P n w) n) (k - 1) - (mnU (fun w => msk (cdE P n w) n) (k - 1) - msk (cdE P n k) n) := by
        conv => lhs; rw [show k = (k - 1) + 1 by omega]
        show mnU _ (k - 1) - (mnU _ (k - 1) - msk (cdE P n (k - 1 + 1)) n) = _
        rw [show k - 1 + 1 = k by omega]
      rw [← hs]
      exact this
  refine vcX12_countsNet hL ?_
  refine Ct.imp (sp_turnedBy (w := 0) hL hG hn8 hP0 h35 hLy (by omega)) (fun r s1 w => ?_)
  obtain ⟨v, rfl, rfl, c1⟩ := w
  exact ⟨_, rfl, c1.fr, loop 7 1 s1 rfl (Nat.le_refl _) c1⟩
