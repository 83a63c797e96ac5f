/-! ===== the class keeps a net ===== -/
theorem la_any (x : Int64) : ∃ m, m < 2 ^ 64 ∧ x = lN m := ⟨x.toBitVec.toNat, x.toBitVec.isLt, by
  apply Int64.toBitVec_inj.1
  show x.toBitVec = BitVec.ofNat 64 x.toBitVec.toNat
  exact BitVec.eq_of_toNat_eq (by rw [BitVec.toNat_ofNat, Nat.mod_eq_of_lt x.toBitVec.isLt])⟩
theorem la_eq {a b : Nat} (ha : a < 2 ^ 63) (hb : b < 2 ^ 63) : lN a = lN b ↔ a = b := by
  rw [← Int64.toInt_inj, la_t ha, la_t hb]; omega
theorem la_le {a b : Nat} (ha : a < 2 ^ 63) (hb : b < 2 ^ 63) : 0 ≤ lg_cmp (lN a) (lN b) ↔ b ≤ a := by
  rw [lcN, la_t ha, la_t hb]; omega
def hsC (k : Nat) : Nat := Int32.toNatClampNeg (Int64.toInt32 (jlushr (lN k * (-7046029254386353131)) 55))
theorem hsC_is (k : Nat) : Int64.toInt32 (jlushr (lN k * (-7046029254386353131)) 55) = nI (hsC k) ∧ hsC k < 512 := by
  obtain ⟨m, hm, e⟩ := la_any (lN k * (-7046029254386353131))
  unfold hsC
  rw [e, lit32 55, la_ushr hm (by omega), lN_i]
  have : m / 2 ^ 55 < 512 := by omega
  rw [zCL (by omega)]
  exact ⟨rfl, this⟩
def tbV (o : Option Nat) : Int64 := match o with
  | none => 0
  | some k => lN k
def TbC (s : PS) (n : Nat) (S : List Nat) : Prop := mi s 149 4 = nI S.length ∧ GoS n S ∧ ∃ tab : Nat → Option Nat, (∀ p, p < 512 → ml s 166 p = tbV (tab p)) ∧ HT 512 hsC tab S
theorem goS_len {n k : Nat} {S : List Nat} (hn : 1 ≤ n ∧ n ≤ 8) (h : GoS n S) (hk : inQ n k = true ∧ k < 2 ^ 57 ∧ 0 < k) : S.length ≤ 368 ∨ k ∈ S := by
  by_cases e : k ∈ S
  · exact Or.inr e
  · have h2 := h.ins hk
    rw [insK_n e] at h2
    have := q_len hn h2.1 (fun s hs => (h2.2 s hs).1)
    rw [List.length_append, List.length_singleton] at this
    exact Or.inl (by omega)
abbrev chKn : Nat → Nat → Prop := fun a i => a = 149 ∧ i = 4
abbrev chKe : Nat → Nat → Prop := fun a _ => a = 166
theorem sp_keepNet {g : GV} {d n k : Nat} {S : List Nat} {σ : PS} (hL : Lay σ) (hn : 1 ≤ n ∧ n ≤ 8) (hS : TbC σ n S) (hk : inQ n k = true ∧ k < 2 ^ 57 ∧ 0 < k) :
    CX9_keepNet g d [.ref 149, .long (lN k)] σ (fun s => TbC s n (insK S k) ∧ Ch chKn chKe σ s) := by
  generalize hP : (fun (s : PS) => TbC s n (insK S k) ∧ Ch chKn chKe σ s) = P
  obtain ⟨h1, h2, tab, h3, h4⟩ := hS
  have hlen := goS_len hn h2 hk
  obtain ⟨e1, e2⟩ := hsC_is k
  have hin : S.length < 512 ∨ k ∈ S := by
    rcases hlen with q | q
    · exact Or.inl (by omega)
    · exact Or.inr q
  obtain ⟨j1, j2, j3, j4⟩ := ht_stop h4 e2 hin
  have hv : ∀ p, p < 512 → (lg_cmp (ml σ 166 p) (lN k) = 0 ↔ tab p = some k) ∧ (lg_cmp (ml σ 166 p) 0 = 0 ↔ tab p = none) := by
    intro p hp
    rw [lg0, lg0, h3 p hp]
    cases e : tab p with
    | none =>
      show ((0 : Int64) = lN k ↔ none = some k) ∧ ((0 : Int64) = 0 ↔ none = none)
      rw [litL 0, la_eq (by omega) (by omega)]
      exact ⟨⟨fun q => by omega, fun q => (nomatch q)⟩, ⟨fun _ => rfl, fun _ => rfl⟩⟩
    | some k' =>
      obtain ⟨m1, -⟩ := h4.1 p k' hp e
      obtain ⟨-, m2, m3⟩ := h2.2 k' m1
      show (lN k' = lN k ↔ some k' = some k) ∧ (lN k' = 0 ↔ some k' = none)
      rw [litL 0, la_eq (by omega) (by omega), la_eq (by omega) (by omega)]
      exact ⟨⟨fun q => by rw [q], fun q => Option.some.inj q⟩, ⟨fun q => by omega, fun q => (nomatch q)⟩⟩
  have loop : ∀ (z j : Nat), j + z = j1 → VX9_keepNet g d P 13 [some (.ref 149), some (.long (lN k)), none, some (.int (nI ((hsC k + j) % 512))), some (.int (nI j))] [] σ := by
    intro z
    induction z with
    | zero =>
      intro j hj
      have : j = j1 := by omega
      subst this
      have hp : (hsC k + j) % 512 < 512 := Nat.mod_lt _ (by decide)
      obtain ⟨v1, v2⟩ := hv _ hp
      refine vcX9_keepNet_13 hL _ _ _ ⟨fun q => absurd q (by rw [lit32 512, zLE (by omega) (by omega)]; omega), fun _ => ?_⟩
      rw [zIN (by omega) (by omega), zCL (by omega)]
      refine ⟨hp, fun q => ?_, fun q => ⟨hp, fun q2 => ?_, fun q2 => ⟨hp, fun s10 e10 s12 e12 x14 e14 => ?_⟩⟩⟩
      · have hm := (h4.1 _ k hp (v1.mp q)).1
        rw [← hP, insK_y hm]
        exact ⟨⟨h1, h2, tab, h3, h4⟩, Ch.rf⟩
      · exfalso
        rcases j3 with w | w
        · exact q2 (v2.mpr w)
        · exact q (v1.mpr w)
      · have hno := ht_not h4 (v2.mp q2) j4
        have h14 : mi s10 149 4 = nI S.length := by rw [e10, mi_sj]; exact h1
        rw [h14, inc rfl] at e12
        have c12 : Ch chKn chKe σ s12 := by
          rw [e12]
          exact Ch.si (by rw [e10]; exact (Ch.rf : Ch chKn chKe σ σ).sj rfl) ⟨rfl, rfl⟩
        have done : P s12 := by
          rw [← hP, insK_n hno]
          refine ⟨⟨by rw [e12, mi_si, if_pos ⟨rfl, rfl⟩, List.length_append]; rfl, by have := h2.ins hk; rw [insK_n hno] at this; exact this, _, fun p hpp => ?_, ht_put h4 (by omega) j2 (v2.mp q2) j4⟩, c12⟩
          rw [e12, ml_si, e10, ml_sj]
          by_cases e : p = (hsC k + j) % 512
          · rw [if_pos ⟨rfl, e⟩, if_pos e]; rfl
          · rw [if_neg (fun w => e w.2), if_neg e]; exact h3 p hpp
        rw [inc e14]
        refine vcX9_keepNet_13 (c12.lay hL) _ _ _ ⟨fun _ => done, fun _ => ?_⟩
        rw [zIN (by omega) (by omega), zCL (by omega)]
        have hv12 : ml s12 166 ((hsC k + j) % 512) = lN k := by rw [e12, ml_si, e10, ml_sj, if_pos ⟨rfl, rfl⟩]
        rw [hv12]
        exact ⟨hp, fun _ => done, fun w => absurd (lg0.mpr rfl) w⟩
    | succ z ih =>
      intro j hj
      have hp : (hsC k + j) % 512 < 512 := Nat.mod_lt _ (by decide)
      obtain ⟨v1, v2⟩ := hv _ hp
      obtain ⟨w1, w2⟩ := j4 j (by omega)
      refine vcX9_keepNet_13 hL _ _ _ ⟨fun q => absurd q (by rw [lit32 512, zLE (by omega) (by omega)]; omega), fun _ => ?_⟩
      rw [zIN (by omega) (by omega), zCL (by omega)]
      refine ⟨hp, fun q => absurd (v1.mp q) w2, fun _ => ⟨hp, fun _ x5 e5 x7 e7 => ?_, fun q => absurd (v2.mp q) w1⟩⟩
      rw [lit32 1, nI_add, lit32 512, zREM (by omega) (by omega) (by omega), show ((hsC k + j) % 512 + 1) % 512 = (hsC k + (j + 1)) % 512 by omega] at e5
      rw [e5, inc e7]
      exact ih (j + 1) (by omega)
  refine vcX9_keepNet hL _ (fun x1 ex => ?_)
  have h0 := loop j1 0 (by omega)
  rw [Nat.add_zero, Nat.mod_eq_of_lt e2] at h0
  rw [ex, e1]
  exact h0
/-! good, or over itself -/
theorem key_rng {P : Nat → PLc} {n : Nat} (h : Grn P n) (h8 : n ≤ 8) : keyP P n < 2 ^ 57 ∧ 0 < keyP P n ∧ (cnt (fun e => (keyP P n).testBit e) 64 = n ↔ Flt P n) := by
  obtain ⟨⟨w, w1, w2⟩, -⟩ := mnU_is (fun w => msk (cdE P n w) n) 7
  have hk : keyP P n = msk (cdE P n w) n := w2
  have hn := h.pos
  have hlt := fun c (hc : c < n) => cdE_lt h h8 w hc
  rw [hk]
  refine ⟨msk_lt n (Nat.le_refl _) hlt, ?_, ?_⟩
  · refine Nat.pos_of_ne_zero (fun q => ?_)
    have := (msk_t (cdE P n w) (cdE P n w 0) n).mpr ⟨0, hn, rfl⟩
    rw [q] at this
    simp at this
  · rw [(msk_cnt n (fun c hc => by have := hlt c hc; omega)).2]
    constructor
    · intro q c d hc hd e1 e2
      exact q c d hc hd ((cdE_inj h h8 w hc hd).mpr ⟨e1, e2⟩)
    · intro q c d hc hd e
      obtain ⟨e1, e2⟩ := (cdE_inj h h8 w hc hd).mp e
      exact q c d hc hd e1 e2
theorem sw_sw (w : Nat) : sw56 (sw56 w) = w := by
  unfold sw56
  by_cases h : w = 5
  · subst h; rfl
  · by_cases h2 : w = 6
    · subst h2; rfl
    · rw [if_neg h, if_neg h2, if_neg h, if_neg h2]
theorem sw_le {w : Nat} (h : w ≤ 7) : sw56 w ≤ 7 := by
  unfold sw56
  split
  · omega
  · split <;> omega
theorem key_sw (P : Nat → PLc) (n : Nat) : mnU (fun h => msk (cdE P n (sw56 h)) n) 7 = keyP P n := by
  obtain ⟨⟨w, w1, w2⟩, w3⟩ := mnU_is (fun w => msk (cdE P n w) n) 7
  obtain ⟨⟨u, u1, u2⟩, u3⟩ := mnU_is (fun h => msk (cdE P n (sw56 h)) n) 7
  have a := w3 (sw56 u) (sw_le u1)
  have b := u3 (sw56 w) (sw_le w1)
  rw [sw_sw] at b
  unfold keyP
  omega
abbrev chKg : Nat → Nat → Prop := fun a i => a = 149 ∧ (i = 3 ∨ i = 4) ∨ a = 162 ∨ a = 163
theorem sp_keepIfGood {g : GV} {d n gd : Nat} {P : Nat → PLc} {S : List Nat} {σ : PS} (hL : Lay σ) (h0 : mi σ 129 0 = nI n) (hG : Grn P n) (hn8 : n ≤ 8) (hP0 : P 0 = (0, 0, 0)) (hLy : Lyd σ n P) (hS : TbC σ n S) (hg : mi σ 149 3 = nI gd) :
    CX9_keepIfGood g (d + 1) [.ref 149] σ (fun s => (Flt P n → mi s 149 3 = nI (gd + 1) ∧ TbC s n (insK S (keyP P n))) ∧ (¬ Flt P n → mi s 149 3 = nI gd ∧ TbC s n S) ∧ Ch chKg chKe σ s) := by
  generalize hQ : (fun (s : PS) => (Flt P n → mi s 149 3 = nI (gd + 1) ∧ TbC s n (insK S (keyP P n))) ∧ (¬ Flt P n → mi s 149 3 = nI gd ∧ TbC s n S) ∧ Ch chKg chKe σ s) = Q
  have hn := hG.pos
  obtain ⟨k1, k2, k3⟩ := key_rng hG hn8
  refine vcX9_keepIfGood hL (Ct.imp (sp_move9 (h := fun c => (P c).1) hL (kd_162 hL) (Or.inl rfl) h0 hn hn8 (fun c hc => (hLy c hc).1) (fun c hc => (hG.bd hn8 hP0 hc).1)) (fun r s1 w => ?_))
  obtain ⟨rfl, m1, c1⟩ := w
  have hL1 := c1.lay hL
  refine ⟨rfl, c1.fr, Ct.imp (sp_move9 (h := fun c => (P c).2.1) hL1 (kd_163 hL1) (Or.inr rfl) (by rw [c1.i (by omega)]; exact h0) hn hn8 (fun c hc => by rw [c1.i (by omega)]; exact (hLy c hc).2) (fun c hc => (hG.bd hn8 hP0 hc).2)) (fun r s3 w => ?_)⟩
  obtain ⟨rfl, m3, c3⟩ := w
  refine ⟨rfl, c3.fr, ?_⟩
  have c3' : Ch (fun a _ => a = 162 ∨ a = 163) noL σ s3 := (c1.mono (fun a k h => Or.inl h) (fun _ _ h => h)).trans (c3.mono (fun a k h => Or.inr h) (fun _ _ h => h))
  have hL3 := c3'.lay hL
  have hN : Nrm s3 n P := fun c hc => ⟨by rw [c3.i (by omega)]; exact m1 c hc, m3 c hc⟩
  have h03 : mi s3 129 0 = nI n := by rw [c3'.i (by omega)]; exact h0
  have hS3 : TbC s3 n S := by
    obtain ⟨t1, t2, tab, t3, t4⟩ := hS
    exact ⟨by rw [c3'.i (by omega)]; exact t1, t2, tab, fun p hp => by rw [c3'.l (fun h => h)]; exact t3 p hp, t4⟩
  have hg3 : mi s3 149 3 = nI gd := by rw [c3'.i (by omega)]; exact hg
  have cK : Ch chKg chKe σ s3 := c3'.mono (fun a k h => by omega) (fun _ _ h => h.elim)
  have fin : VX9_keepIfGood g (d + 1) Q 20 [some (.ref 149), some (.long (lN (keyP P n))), none, some (.int (nI 8)), none, none] [] s3 := by
    refine vcX9_keepIfGood_20 hL3 _ _ ⟨fun _ => ?_, fun q => absurd (Int32.le_refl _) q⟩
    refine Ct.imp (sp_bitCountL hL3 (by omega)) (fun r s5 w => ?_)
    obtain ⟨v, rfl, rfl, rfl⟩ := w
    have hcn := cnt_le (fun i => (keyP P n).testBit i) 64
    refine ⟨_, rfl, Fr.rf, ?_⟩
    rw [h03, zEQ (by omega) (by omega)]
    refine ⟨fun q => ?_, fun q s7 e7 => ?_⟩
    · rw [← hQ]
      exact ⟨fun w => absurd (k3.mpr w) q, fun _ => ⟨hg3, hS3⟩, cK⟩
    · have hF := k3.mp q
      rw [hg3, inc rfl] at e7
      have c7 : Ch (fun a i => a = 149 ∧ i = 3) noL s5 s7 := by rw [e7]; exact Ch.rf.si ⟨rfl, rfl⟩
      have hS7 : TbC s7 n S := by
        obtain ⟨t1, t2, tab, t3, t4⟩ := hS3
        exact ⟨by rw [c7.i (by omega)]; exact t1, t2, tab, fun p hp => by rw [c7.l (fun h => h)]; exact t3 p hp, t4⟩
      refine Ct.imp (sp_keepNet (c7.lay hL3) ⟨hn, hn8⟩ hS7 ⟨key_q hG hn8 hF, k1, k2⟩) (fun r s9 w => ?_)
      obtain ⟨rfl, t1, c9⟩ := w
      refine ⟨rfl, c9.fr, ?_⟩
      rw [← hQ]
      exact ⟨fun _ => ⟨by rw [c9.i (by omega), e7, mi_si, if_pos ⟨rfl, rfl⟩], t1⟩, fun w => absurd hF w, cK.trans ((c7.mono (fun a k h => by omega) (fun _ _ h => h.elim)).trans (c9.mono (fun a k h => by omega) (fun _ _ h => h)))⟩
  have loop : ∀ (z k : Nat) (m : Int64), k + z = 8 → (1 ≤ k → m = lN (mnU (fun h => msk (cdE P n (sw56 h)) n) (k - 1))) → VX9_keepIfGood g (d + 1) Q 20 [some (.ref 149), some (.long m), none, some (.int (nI k)), none, none] [] s3 := by
    intro z
    induction z with
    | zero =>
      intro k m hz hm
      have : k = 8 := by omega
      subst this
      rw [hm (by omega), key_sw]
      exact fin
    | succ z ih =>
      intro k m hz hm
      refine vcX9_keepIfGood_20 hL3 _ _ ⟨fun q => ?_, fun _ => ?_⟩
      · rw [lit32 8, zLE (by omega) (by omega)] at q
        omega
      refine Ct.imp (sp_squares hL3 h03 hG hn8 hN (show k < 8 by omega)) (fun r s11 w => ?_)
      obtain ⟨v, rfl, rfl, rfl⟩ := w
      have hmsk : ∀ h, msk (cdE P n (sw56 h)) n < 2 ^ 57 := fun h => msk_lt n (Nat.le_refl _) (fun c hc => cdE_lt hG hn8 _ hc)
      refine ⟨_, rfl, Fr.rf, ?_⟩
      rw [nI0 (by omega)]
      refine ⟨fun q x13 e13 => ?_, fun q => ?_⟩
      · subst q
        rw [inc e13]
        exact ih 1 _ (by omega) (fun _ => rfl)
      · have hmk := hm (by omega)
        obtain ⟨⟨u, u1, u2⟩, u3⟩ := mnU_is (fun h => msk (cdE P n (sw56 h)) n) (k - 1)
        have hmu : mnU (fun h => msk (cdE P n (sw56 h)) n) (k - 1) < 2 ^ 57 := by rw [u2]; exact hmsk u
        have hs : mnU (fun h => msk (cdE P n (sw56 h)) n) k = mnU (fun h => msk (cdE P n (sw56 h)) n) (k - 1) - (mnU (fun h => msk (cdE P n (sw56 h)) n) (k - 1) - msk (cdE P n (sw56 k)) n) := by
          conv => lhs; rw [show k = (k - 1) + 1 by omega]
          show mnU _ (k - 1) - (mnU _ (k - 1) - msk (cdE P n (sw56 (k - 1 + 1))) n) = _
          rw [show k - 1 + 1 = k by omega]
        have hvk := hmsk k
        rw [hmk, la_le (by omega) (by omega)]
        refine ⟨fun w x15 e15 => ?_, fun w x17 e17 => ?_⟩
        · rw [inc e15]
          refine ih (k + 1) _ (by omega) (fun _ => ?_)
          rw [Nat.add_sub_cancel, hs]
          congr 1
          omega
        · rw [inc e17]
          refine ih (k + 1) _ (by omega) (fun _ => ?_)
          rw [Nat.add_sub_cancel, hs]
          congr 1
          omega
  exact loop 8 0 0 rfl (fun h => by omega)
