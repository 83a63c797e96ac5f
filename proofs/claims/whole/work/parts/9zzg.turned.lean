/-! ===== the reference's pictures of a tree laid flat ===== -/
theorem iI_mul (a b : Int) : iI a * iI b = iI (a * b) := (Int32.ofInt_mul a b).symm
def sgI (b : Bool) (z : Int) : Int := match b with
  | true => -z
  | false => z
theorem bt3r : ∀ w, w < 8 → ((nI w &&& 1 ≤ 0) = (w.testBit 0 = false)) ∧ ((nI w &&& 2 ≤ 0) = (w.testBit 1 = false)) ∧ ((nI w &&& 4 ≤ 0) = (w.testBit 2 = false)) := by
  intro w hw
  have : w = 0 ∨ w = 1 ∨ w = 2 ∨ w = 3 ∨ w = 4 ∨ w = 5 ∨ w = 6 ∨ w = 7 := by omega
  rcases this with rfl | rfl | rfl | rfl | rfl | rfl | rfl | rfl <;> exact ⟨propext (by decide), propext (by decide), propext (by decide)⟩
theorem sgI_lo {n : Nat} {h : Nat → Int} (b : Bool) {c : Nat} (hc : c < n) : (sgI b (h c) - loI (fun i => sgI b (h i)) n).toNat = flp b (mxN (fun i => (h i - loI h n).toNat) n) ((h c - loI h n).toNat) ∧ loI (fun i => sgI b (h i)) n ≤ sgI b (h c) := by
  have hn : 0 < n := by omega
  obtain ⟨⟨a, a1, a2⟩, a3⟩ := loI_is h n hn
  have k1 := a3 c hc
  cases b with
  | false => exact ⟨rfl, k1⟩
  | true =>
    obtain ⟨⟨e, e1, e2⟩, e3⟩ := loI_is (fun i => sgI true (h i)) n hn
    obtain ⟨m1, m2⟩ := mxN_is (fun i => (h i - loI h n).toNat) n
    have k2 := e3 c hc
    have k3 := m1 c hc
    have k4 := m1 e e1
    have k5 := a3 e e1
    have e2' : - h e = loI (fun i => sgI true (h i)) n := e2
    have k2' : loI (fun i => sgI true (h i)) n ≤ - h c := k2
    refine ⟨?_, k2⟩
    show (- h c - loI (fun i => sgI true (h i)) n).toNat = mxN (fun i => (h i - loI h n).toNat) n - (h c - loI h n).toNat
    generalize hM : mxN (fun i => (h i - loI h n).toNat) n = M at *
    generalize hLo : loI (fun i => sgI true (h i)) n = L at *
    rcases m2 with z | ⟨u, u1, u2⟩
    · omega
    · have u3 := e3 u u1
      have u3' : L ≤ - h u := u3
      have u4 := a3 u u1
      omega
/-- the picture's axes -/
def axU (P : Nat → PLc) (w c : Nat) : Int := sgI (w.testBit 0) (match w.testBit 2 with
  | true => (P c).2.1
  | false => (P c).1)
def axV (P : Nat → PLc) (w c : Nat) : Int := sgI (w.testBit 1) (match w.testBit 2 with
  | true => (P c).1
  | false => (P c).2.1)
theorem ax_cd {P : Nat → PLc} {n w c : Nat} (hc : c < n) : cdE P n w c = 8 * (axV P w c - loI (axV P w) n).toNat + (axU P w c - loI (axU P w) n).toNat ∧ loI (axU P w) n ≤ axU P w c ∧ loI (axV P w) n ≤ axV P w c := by
  have x0 := sgI_lo (h := fun i => (P i).1) (w.testBit 0) hc
  have x1 := sgI_lo (h := fun i => (P i).1) (w.testBit 1) hc
  have y0 := sgI_lo (h := fun i => (P i).2.1) (w.testBit 0) hc
  have y1 := sgI_lo (h := fun i => (P i).2.1) (w.testBit 1) hc
  unfold cdE cdW
  have eU : axU P w = fun i => axU P w i := rfl
  have eV : axV P w = fun i => axV P w i := rfl
  rw [eU, eV]
  unfold axU axV
  cases hb : w.testBit 2 with
  | true => exact ⟨by rw [x1.1, y0.1]; rfl, y0.2, x1.2⟩
  | false => exact ⟨by rw [y1.1, x0.1]; rfl, x0.2, y1.2⟩
theorem ax_le {P : Nat → PLc} {n w c : Nat} (hG : Grn P n) (h8 : n ≤ 8) (hc : c < n) : (axU P w c - loI (axU P w) n).toNat ≤ 7 := by
  have x0 := sgI_lo (h := fun i => (P i).1) (w.testBit 0) hc
  have y0 := sgI_lo (h := fun i => (P i).2.1) (w.testBit 0) hc
  have hw := hG.wh
  have a := flp_le (b := w.testBit 0) ((mxN_is (nX P n) n).1 c hc)
  have b := flp_le (b := w.testBit 0) ((mxN_is (nY P n) n).1 c hc)
  have eU : axU P w = fun i => axU P w i := rfl
  rw [eU]
  unfold axU
  cases hb : w.testBit 2 with
  | true =>
    refine Nat.le_trans (Nat.le_of_eq y0.1) ?_
    show flp (w.testBit 0) (mxN (nY P n) n) (nY P n c) ≤ 7
    omega
  | false =>
    refine Nat.le_trans (Nat.le_of_eq x0.1) ?_
    show flp (w.testBit 0) (mxN (nX P n) n) (nX P n c) ≤ 7
    omega
theorem ax_bd {P : Nat → PLc} {n w c : Nat} (h : Grn P n) (h8 : n ≤ 8) (h0 : P 0 = (0, 0, 0)) (hc : c < n) : (-7 ≤ axU P w c ∧ axU P w c ≤ 7) ∧ -7 ≤ axV P w c ∧ axV P w c ≤ 7 := by
  have hb := h.bd h8 h0 hc
  have sg : ∀ (b : Bool) (z : Int), -7 ≤ z ∧ z ≤ 7 → -7 ≤ sgI b z ∧ sgI b z ≤ 7 := by
    intro b z hz
    cases b
    · exact hz
    · show -7 ≤ -z ∧ -z ≤ 7
      omega
  unfold axU axV
  refine ⟨sg _ _ ?_, sg _ _ ?_⟩
  · cases w.testBit 2
    · exact hb.1
    · exact hb.2
  · cases w.testBit 2
    · exact hb.2
    · exact hb.1
abbrev chSp : Nat → Nat → Prop := fun a _ => a = 228
/-- all the squares looked for -/
theorem tb_scan {g : GV} {d n w : Nat} {P : Nat → PLc} {Q : Int64 → PS → Prop} {τ : PS} (hL : Lay τ) (hG : Grn P n) (hn8 : n ≤ 8) (hP0 : P 0 = (0, 0, 0)) (h35 : mi τ 179 35 = nI n) (hsp : ∀ c, c < n → mi τ 228 c = iI (100 * (axU P w c + 20) + axV P w c + 20)) (hQ : Q (lN (msk (cdE P n w) n)) τ) :
    VX12_turnedBy g d Q 153 [some (.ref 179), none, some (.int (iI (loI (axU P w) n + 20))), some (.int (iI (loI (axV P w) n + 20))), some (.long 0), none, some (.int 0), none, none] [] τ := by
  have hn := hG.pos
  have lu := loI_bd (b := 7) n (fun c hc => (ax_bd (w := w) hG hn8 hP0 hc).1) hn
  have lv := loI_bd (b := 7) n (fun c hc => (ax_bd (w := w) hG hn8 hP0 hc).2) hn
  have hcl := fun c (hc : c < n) => cdE_lt hG hn8 w hc
  have rows : ∀ (z y : Nat) (M : Nat), y + z = 8 → (∀ e, M.testBit e = true ↔ ∃ c, c < n ∧ e = cdE P n w c ∧ e < 8 * y) → VX12_turnedBy g d Q 153 [some (.ref 179), none, some (.int (iI (loI (axU P w) n + 20))), some (.int (iI (loI (axV P w) n + 20))), some (.long (lN M)), none, some (.int (nI y)), none, none] [] τ := by
    intro z
    induction z with
    | zero =>
      intro y M hz hM
      have : y = 8 := by omega
      subst this
      refine vcX12_turnedBy_153 hL _ _ _ _ ⟨fun _ => ?_, fun q => absurd (Int32.le_refl _) q⟩
      have : M = msk (cdE P n w) n := Nat.eq_of_testBit_eq (fun e => Bool.eq_iff_iff.mpr (by
        rw [hM, msk_t]
        constructor
        · rintro ⟨c, c1, c2, -⟩; exact ⟨c, c1, c2⟩
        · rintro ⟨c, c1, c2⟩
          have := hcl c c1
          exact ⟨c, c1, c2, by omega⟩))
      rw [this]
      exact hQ
    | succ z ih =>
      intro y M hz hM
      have hy : y < 8 := by omega
      have cols : ∀ (v x : Nat) (M : Nat), x + v = 8 → (∀ e, M.testBit e = true ↔ ∃ c, c < n ∧ e = cdE P n w c ∧ e < 8 * y + x) → VX12_turnedBy g d Q 163 [some (.ref 179), none, some (.int (iI (loI (axU P w) n + 20))), some (.int (iI (loI (axV P w) n + 20))), some (.long (lN M)), none, some (.int (nI y)), some (.int (nI x)), none] [] τ := by
        intro v
        induction v with
        | zero =>
          intro x M hv hM
          have : x = 8 := by omega
          subst this
          refine vcX12_turnedBy_163 hL _ _ _ _ _ ⟨fun _ x39 e39 => ?_, fun q => absurd (Int32.le_refl _) q⟩
          rw [inc e39]
          exact ih (y + 1) M (by omega) (fun e => by rw [hM]; exact ⟨fun ⟨c, c1, c2, c3⟩ => ⟨c, c1, c2, by omega⟩, fun ⟨c, c1, c2, c3⟩ => ⟨c, c1, c2, by omega⟩⟩)
        | succ v ihv =>
          intro x M hv hM
          have hx : x < 8 := by omega
          have cells : ∀ (u k : Nat) (M : Nat), k + u = n → (∀ e, M.testBit e = true ↔ ∃ c, c < n ∧ e = cdE P n w c ∧ (e < 8 * y + x ∨ e = 8 * y + x ∧ c < k)) → VX12_turnedBy g d Q 173 [some (.ref 179), none, some (.int (iI (loI (axU P w) n + 20))), some (.int (iI (loI (axV P w) n + 20))), some (.long (lN M)), none, some (.int (nI y)), some (.int (nI x)), some (.int (nI k))] [] τ := by
            intro u
            induction u with
            | zero =>
              intro k M hk hM
              have : k = n := by omega
              subst this
              refine vcX12_turnedBy_173 hL _ _ _ _ _ _ ⟨fun _ x41 e41 => ?_, fun q => absurd (by rw [h35]; exact Int32.le_refl _) q⟩
              rw [inc e41]
              exact ihv (x + 1) M (by omega) (fun e => by rw [hM]; exact ⟨fun ⟨c, c1, c2, c3⟩ => ⟨c, c1, c2, by omega⟩, fun ⟨c, c1, c2, c3⟩ => ⟨c, c1, c2, by omega⟩⟩)
            | succ u ihu =>
              intro k M hk hM
              have hkn : k < n := by omega
              obtain ⟨m1, m2, m3⟩ := ax_cd (P := P) (w := w) hkn
              obtain ⟨b1, b2⟩ := ax_bd (w := w) hG hn8 hP0 hkn
              refine vcX12_turnedBy_173 hL _ _ _ _ _ _ ⟨fun q => ?_, fun _ => ?_⟩
              · rw [h35, zLE (by omega) (by omega)] at q
                omega
              rw [zIN (by omega) (by omega), zCL (by omega), hsp k hkn, show (100 : Int32) = iI 100 by decide, iI_n (n := x) (by omega), iI_n (n := y) (by omega), iI_add, iI_mul, iI_add, iI_add, iI_eq (by omega) (by omega), ← iI_n (n := x) (by omega), ← iI_n (n := y) (by omega)]
              have hiff : 100 * (axU P w k + 20) + axV P w k + 20 = 100 * ((x : Int) + (loI (axU P w) n + 20)) + (y : Int) + (loI (axV P w) n + 20) ↔ cdE P n w k = 8 * y + x := by
                have := hcl k hkn
                have m4 := ax_le (w := w) hG hn8 hkn
                rw [m1] at this ⊢
                constructor
                · intro q; omega
                · intro q; omega
              rw [hiff]
              refine ⟨by omega, fun q x44 e44 => ?_, fun q x46 e46 x48 e48 => ?_⟩
              · rw [inc e44]
                refine ihu (k + 1) M (by omega) (fun e => ?_)
                rw [hM]
                refine ⟨fun ⟨c, c1, c2, c3⟩ => ⟨c, c1, c2, by omega⟩, fun ⟨c, c1, c2, c3⟩ => ⟨c, c1, c2, ?_⟩⟩
                rcases c3 with c3 | ⟨c3, c4⟩
                · exact Or.inl c3
                · refine Or.inr ⟨c3, ?_⟩
                  by_cases ek : c = k
                  · subst ek; omega
                  · omega
              · rw [inc e48, e46, lit32 8, pk_mul, nI_add, la_shl1 _ (by omega), la_or]
                refine ihu (k + 1) _ (by omega) (fun e => ?_)
                rw [or_bit2, Bool.or_eq_true, beq_iff_eq, hM]
                constructor
                · rintro (⟨c, c1, c2, c3⟩ | c)
                  · exact ⟨c, c1, c2, by omega⟩
                  · exact ⟨k, hkn, by omega, Or.inr ⟨c, by omega⟩⟩
                · rintro ⟨c, c1, c2, c3⟩
                  rcases c3 with c3 | ⟨c3, c4⟩
                  · exact Or.inl ⟨c, c1, c2, Or.inl c3⟩
                  · exact Or.inr c3
          refine vcX12_turnedBy_163 hL _ _ _ _ _ ⟨fun q => ?_, fun _ => ?_⟩
          · rw [lit32 8, zLE (by omega) (by omega)] at q
            omega
          exact cells n 0 M (by omega) (fun e => by rw [hM]; exact ⟨fun ⟨c, c1, c2, c3⟩ => ⟨c, c1, c2, Or.inl c3⟩, fun ⟨c, c1, c2, c3⟩ => ⟨c, c1, c2, by omega⟩⟩)
      refine vcX12_turnedBy_153 hL _ _ _ _ ⟨fun q => ?_, fun _ => ?_⟩
      · rw [lit32 8, zLE (by omega) (by omega)] at q
        omega
      exact cols 8 0 M (by omega) (fun e => by rw [hM]; exact ⟨fun ⟨c, c1, c2, c3⟩ => ⟨c, c1, c2, by omega⟩, fun ⟨c, c1, c2, c3⟩ => ⟨c, c1, c2, by omega⟩⟩)
  exact rows 8 0 0 rfl (fun e => by
    rw [Nat.zero_testBit]
    exact ⟨fun q => (nomatch q), fun ⟨c, c1, c2, c3⟩ => by omega⟩)
theorem sp_turnedBy {g : GV} {d n w : Nat} {P : Nat → PLc} {σ : PS} (hL : Lay σ) (hG : Grn P n) (hn8 : n ≤ 8) (hP0 : P 0 = (0, 0, 0)) (h35 : mi σ 179 35 = nI n) (hLy : ∀ c, c < n → mi σ 221 c = iI (P c).1 ∧ mi σ 222 c = iI (P c).2.1) (hw : w < 8) :
    CX12_turnedBy g d [.ref 179, .int (nI w)] σ (fun v s => v = lN (msk (cdE P n w) n) ∧ Ch chSp noL σ s) := by
  generalize hQ : (fun (v : Int64) (s : PS) => v = lN (msk (cdE P n w) n) ∧ Ch chSp noL σ s) = Q
  have hn := hG.pos
  obtain ⟨t0, t1, t2⟩ := bt3r w hw
  have lo0 : ∀ h : Nat → Int, loI h 1 = h 0 := fun h => by show min (h 0) (h 0) = h 0; omega
  have loop : ∀ (z k : Nat) (s : PS) (a b : Int), k + z = n → Ch chSp noL σ s → (∀ c, c < k → mi s 228 c = iI (100 * (axU P w c + 20) + axV P w c + 20)) → (a = if k = 0 then 99 else loI (axU P w) k + 20) → (b = if k = 0 then 99 else loI (axV P w) k + 20) → VX12_turnedBy g d Q 9 [some (.ref 179), some (.int (nI w)), some (.int (iI a)), some (.int (iI b)), some (.int (nI k)), none, none, none, none] [] s := by
    intro z
    induction z with
    | zero =>
      intro k s a b hz c hs ha hb
      have : k = n := by omega
      subst this
      rw [if_neg (by omega)] at ha hb
      subst ha hb
      refine vcX12_turnedBy_9 (c.lay hL) _ _ _ _ ⟨fun _ => ?_, fun q => absurd (by rw [c.i (by omega), h35]; exact Int32.le_refl _) q⟩
      refine tb_scan (c.lay hL) hG hn8 hP0 (by rw [c.i (by omega)]; exact h35) hs ?_
      rw [← hQ]
      exact ⟨rfl, c⟩
    | succ z ih =>
      intro k s a b hz c hs ha hb
      have hkn : k < n := by omega
      obtain ⟨b1, b2⟩ := ax_bd (w := w) hG hn8 hP0 hkn
      have bb := hG.bd hn8 hP0 hkn
      have ab : -7 ≤ a ∧ a ≤ 99 ∧ -7 ≤ b ∧ b ≤ 99 := by
        by_cases e : k = 0
        · rw [if_pos e] at ha hb; omega
        · rw [if_neg e] at ha hb
          have lu := loI_bd (b := 7) k (fun c hc => (ax_bd (w := w) hG hn8 hP0 (show c < n by omega)).1) (by omega)
          have lv := loI_bd (b := 7) k (fun c hc => (ax_bd (w := w) hG hn8 hP0 (show c < n by omega)).2) (by omega)
          omega
      have hx1 : mi s 221 k = iI (P k).1 := by rw [c.i (by omega)]; exact (hLy k hkn).1
      have hy1 : mi s 222 k = iI (P k).2.1 := by rw [c.i (by omega)]; exact (hLy k hkn).2
      have mina : min a (axU P w k + 20) = if k + 1 = 0 then 99 else loI (axU P w) (k + 1) + 20 := by
        rw [if_neg (by omega)]
        by_cases e : k = 0
        · subst e
          rw [if_pos rfl] at ha
          rw [lo0]; omega
        · rw [if_neg e] at ha
          show _ = min (loI (axU P w) k) (axU P w k) + 20
          omega
      have minb : min b (axV P w k + 20) = if k + 1 = 0 then 99 else loI (axV P w) (k + 1) + 20 := by
        rw [if_neg (by omega)]
        by_cases e : k = 0
        · subst e
          rw [if_pos rfl] at hb
          rw [lo0]; omega
        · rw [if_neg e] at hb
          show _ = min (loI (axV P w) k) (axV P w k) + 20
          omega
      have put : ∀ (t v : Int32), t = iI (axU P w k) → (w.testBit 1 = false → v = iI (axV P w k)) → (¬ w.testBit 1 = false → -v = iI (axV P w k)) → VX12_turnedBy g d Q 82 [some (.ref 179), some (.int (nI w)), some (.int (iI a)), some (.int (iI b)), some (.int (nI k)), none, some (.int v), none, none] [.int t] s := by
        intro t v et ev1 ev2
        have fin : ∀ s20 : PS, s20 = si s 228 k (((100 * (iI (axU P w k) + 20)) + iI (axV P w k)) + 20) → ∀ x : Int32, x = jmin (iI a) (iI (axU P w k) + 20) → ∀ y : Int32, y = jmin (iI b) (iI (axV P w k) + 20) → ∀ q : Int32, q = nI k + 1 → VX12_turnedBy g d Q 9 [some (.ref 179), some (.int (nI w)), some (.int x), some (.int y), some (.int q), none, none, none, none] [] s20 := by
          intro s20 e20 x ex y ey q eq
          rw [show (20 : Int32) = iI 20 by decide, show (100 : Int32) = iI 100 by decide, iI_add, iI_mul, iI_add, iI_add] at e20
          rw [show (20 : Int32) = iI 20 by decide, iI_add, iI_min (by omega) (by omega)] at ex
          rw [show (20 : Int32) = iI 20 by decide, iI_add, iI_min (by omega) (by omega)] at ey
          rw [inc eq, ex, ey]
          refine ih (k + 1) s20 _ _ (by omega) (by rw [e20]; exact c.si rfl) (fun j hj => ?_) mina minb
          rw [e20, mi_si]
          by_cases e : j = k
          · rw [if_pos ⟨rfl, e⟩, e]
          · rw [if_neg (fun w => e w.2)]; exact hs j (by omega)
        subst et
        refine vcX12_turnedBy_82 (c.lay hL) _ _ _ _ _ _ ?_
        rw [zIN (by omega) (by omega), zCL (by omega), t1]
        refine ⟨fun q => ?_, fun q x28 e28 => ?_⟩
        · rw [ev1 q]
          exact ⟨by omega, fin⟩
        · rw [ev2 q] at e28
          subst e28
          exact ⟨by omega, fin⟩
      -- the axes
      have hv : ∀ v : Int32, v = iI (match w.testBit 2 with | true => (P k).1 | false => (P k).2.1) → (w.testBit 1 = false → v = iI (axV P w k)) ∧ (¬ w.testBit 1 = false → -v = iI (axV P w k)) := by
        intro v ev
        unfold axV
        refine ⟨fun q => by rw [q, ev]; rfl, fun q => ?_⟩
        have : w.testBit 1 = true := by
          cases hb : w.testBit 1 with
          | true => rfl
          | false => exact absurd hb q
        rw [this, ev, iI_neg]
        rfl
      have hu : ∀ t : Int32, t = iI (match w.testBit 2 with | true => (P k).2.1 | false => (P k).1) → (w.testBit 0 = false → t = iI (axU P w k)) ∧ (¬ w.testBit 0 = false → -t = iI (axU P w k)) := by
        intro v ev
        unfold axU
        refine ⟨fun q => by rw [q, ev]; rfl, fun q => ?_⟩
        have : w.testBit 0 = true := by
          cases hb : w.testBit 0 with
          | true => rfl
          | false => exact absurd hb q
        rw [this, ev, iI_neg]
        rfl
      refine vcX12_turnedBy_9 (c.lay hL) _ _ _ _ ⟨fun q => ?_, fun _ => ?_⟩
      · rw [c.i (by omega), h35, zLE (by omega) (by omega)] at q
        omega
      rw [zIN (by omega) (by omega), zCL (by omega), hx1, hy1, t2, t0]
      refine ⟨fun q4 => ⟨by omega, fun x2 e2 => ⟨fun _ => ⟨by omega, fun x5 e5 => ?_⟩, fun w => absurd q4 w⟩⟩, fun q4 => ⟨by omega, fun x2 e2 => ⟨fun w => absurd w q4, fun _ => ⟨by omega, fun x5 e5 => ?_⟩⟩⟩⟩
      · obtain ⟨u1, u2⟩ := hu x2 (by rw [q4]; exact e2)
        obtain ⟨v1, v2⟩ := hv x5 (by rw [q4]; exact e5)
        exact ⟨fun q => put _ _ (u1 q) v1 v2, fun q => put _ _ (u2 q) v1 v2⟩
      · have q4' : w.testBit 2 = true := by
          cases hb : w.testBit 2 with
          | true => rfl
          | false => exact absurd hb q4
        obtain ⟨u1, u2⟩ := hu x2 (by rw [q4']; exact e2)
        obtain ⟨v1, v2⟩ := hv x5 (by rw [q4']; exact e5)
        exact ⟨fun q => put _ _ (u1 q) v1 v2, fun q => put _ _ (u2 q) v1 v2⟩
  exact vcX12_turnedBy hL _ (loop n 0 σ 99 99 (by omega) Ch.rf (fun c hc => by omega) rfl rfl)
