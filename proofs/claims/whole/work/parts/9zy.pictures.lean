/-! ===== the class's pictures of a tree laid flat ===== -/
theorem Grn.bd {P : Nat → PLc} {n c : Nat} (h : Grn P n) (h8 : n ≤ 8) (h0 : P 0 = (0, 0, 0)) (hc : c < n) : (-7 ≤ (P c).1 ∧ (P c).1 ≤ 7) ∧ -7 ≤ (P c).2.1 ∧ (P c).2.1 ≤ 7 := by
  have hn := h.pos
  obtain ⟨o, h1, -, h3, h4⟩ := h
  obtain ⟨x0, x1, y0, y1, r1, r2⟩ := gro_rng h1
  have k1 := r1 c ((h4 c).mpr hc)
  have k2 := r1 0 ((h4 0).mpr hn)
  rw [h0] at k2
  have k3 : x0 ≤ 0 ∧ 0 ≤ x1 ∧ y0 ≤ 0 ∧ 0 ≤ y1 := k2
  omega
theorem loI_bd {h : Nat → Int} {b : Int} : ∀ n, (∀ c, c < n → -b ≤ h c ∧ h c ≤ b) → 0 < n → -b ≤ loI h n ∧ loI h n ≤ b := fun n hb hn => by
  obtain ⟨⟨c, c1, c2⟩, -⟩ := loI_is h n hn
  rw [← c2]
  exact hb c c1
theorem sp_move9 {g : GV} {d o n : Nat} {h : Nat → Int} {σ : PS} (hL : Lay σ) (hk : kd σ o = some (.inr (0, 8))) (ho : o = 162 ∨ o = 163) (h0 : mi σ 129 0 = nI n) (hn : 0 < n) (hn8 : n ≤ 8) (hx : ∀ c, c < n → mi σ o c = iI (h c)) (hb : ∀ c, c < n → -7 ≤ h c ∧ h c ≤ 7) :
    CX9_moveToCorner g d [.ref 149, .ref o] σ (fun s => (∀ c, c < n → mi s o c = nI (h c - loI h n).toNat) ∧ Ch (fun a _ => a = o) noL σ s) := by
  generalize hP : (fun (s : PS) => (∀ c, c < n → mi s o c = nI (h c - loI h n).toNat) ∧ Ch (fun a _ => a = o) noL σ s) = P
  have hlo := (loI_is h n hn).2
  have hlb := loI_bd n hb hn
  have sub : ∀ (z k : Nat) (s : PS), k + z = n → Ch (fun a _ => a = o) noL σ s → (∀ c, c < k → mi s o c = nI (h c - loI h n).toNat) → (∀ c, k ≤ c → mi s o c = mi σ o c) → VX9_moveToCorner g d P 33 [some (.ref 149), some (.ref o), some (.int (iI (loI h n))), some (.int (nI k))] [] s := by
    intro z
    induction z with
    | zero =>
      intro k s hz c h1 h2
      have : k = n := by omega
      subst this
      refine vcX9_moveToCorner_33 (c.lay hL) o 8 (by rw [c.1.1]; exact hk) _ _ ⟨fun _ => ?_, fun q => absurd (by rw [c.i (by omega), h0]; exact Int32.le_refl _) q⟩
      rw [← hP]
      exact ⟨h1, c⟩
    | succ z ih =>
      intro k s hz c h1 h2
      refine vcX9_moveToCorner_33 (c.lay hL) o 8 (by rw [c.1.1]; exact hk) _ _ ⟨fun q => ?_, fun _ => ?_⟩
      · rw [c.i (by omega), h0, zLE (by omega) (by omega)] at q
        omega
      rw [zIN (by omega) (by omega), zCL (by omega), h2 k (Nat.le_refl _), hx k (by omega), iI_sub]
      refine ⟨by omega, by omega, fun s11 e11 x13 e13 => ?_⟩
      rw [inc e13]
      refine ih (k + 1) s11 (by omega) (by rw [e11]; exact c.si rfl) (fun q hq => ?_) (fun q hq => ?_)
      · rw [e11, mi_si]
        by_cases e : q = k
        · have a := hlo k (by omega)
          have b := hb k (by omega)
          rw [if_pos ⟨rfl, e⟩, e, iI_n (by omega)]
          congr 1
          omega
        · rw [if_neg (fun w => e w.2)]
          exact h1 q (by omega)
      · rw [e11, mi_si, if_neg (by omega)]
        exact h2 q (by omega)
  have low : ∀ (z k : Nat), k + z = n → 1 ≤ k → VX9_moveToCorner g d P 6 [some (.ref 149), some (.ref o), some (.int (iI (loI h k))), some (.int (nI k))] [] σ := by
    intro z
    induction z with
    | zero =>
      intro k hz hk1
      have : k = n := by omega
      subst this
      refine vcX9_moveToCorner_6 hL o 8 hk _ _ ⟨fun _ => ?_, fun q => absurd (by rw [h0]; exact Int32.le_refl _) q⟩
      exact sub k 0 σ (by omega) Ch.rf (fun c hc => by omega) (fun c _ => rfl)
    | succ z ih =>
      intro k hz hk1
      refine vcX9_moveToCorner_6 hL o 8 hk _ _ ⟨fun q => ?_, fun _ => ?_⟩
      · rw [h0, zLE (by omega) (by omega)] at q
        omega
      have b := hb k (by omega)
      have b2 := loI_bd (b := 7) k (fun c hc => hb c (by omega)) (by omega)
      rw [zIN (by omega) (by omega), zCL (by omega), hx k (by omega), iI_min (by omega) (by omega)]
      refine ⟨by omega, fun x5 e5 x7 e7 => ?_⟩
      rw [inc e7, e5]
      exact ih (k + 1) (by omega) (by omega)
  refine vcX9_moveToCorner hL o 8 hk ⟨by rw [lit32 0, zIN (by omega) (by omega)]; omega, fun x2 e2 => ?_⟩
  have e1 : loI h 1 = h 0 := by show min (h 0) (h 0) = h 0; omega
  rw [lit32 0, zCL (by omega), hx 0 hn, ← e1] at e2
  subst e2
  exact low (n - 1) 1 (by omega) (Nat.le_refl _)
/-! the 8 pictures -/
def Nrm (s : PS) (n : Nat) (P : Nat → PLc) : Prop := ∀ c, c < n → mi s 162 c = nI (nX P n c) ∧ mi s 163 c = nI (nY P n c)
/-- the class's ways 5 and 6 are the reference's 6 and 5 -/
def sw56 (h : Nat) : Nat := if h = 5 then 6 else if h = 6 then 5 else h
theorem bt3 : ∀ h, h < 8 → ((nI h &&& 1 = 0) = (h.testBit 0 = false)) ∧ ((nI h &&& 2 = 0) = (h.testBit 1 = false)) ∧ ((nI h &&& 4 = 0) = (h.testBit 2 = false)) ∧ (sw56 h).testBit 2 = h.testBit 2 ∧ (h.testBit 2 = false → (sw56 h).testBit 0 = h.testBit 0 ∧ (sw56 h).testBit 1 = h.testBit 1) ∧ (h.testBit 2 = true → (sw56 h).testBit 0 = h.testBit 1 ∧ (sw56 h).testBit 1 = h.testBit 0) := by
  intro h hh
  have : h = 0 ∨ h = 1 ∨ h = 2 ∨ h = 3 ∨ h = 4 ∨ h = 5 ∨ h = 6 ∨ h = 7 := by omega
  rcases this with rfl | rfl | rfl | rfl | rfl | rfl | rfl | rfl <;> exact ⟨propext (by decide), propext (by decide), propext (by decide), by decide, by decide, by decide⟩
theorem flp_sub {b : Bool} {W a : Nat} (h : a ≤ W) : (b = false → nI (flp b W a) = nI a) ∧ (¬ b = false → nI (flp b W a) = nI W - nI a) := by
  cases b
  · exact ⟨fun _ => rfl, fun q => absurd rfl q⟩
  · exact ⟨fun q => (nomatch q), fun _ => by rw [pk_sub h]; rfl⟩
theorem sp_squares {g : GV} {d n h : Nat} {P : Nat → PLc} {σ : PS} (hL : Lay σ) (h0 : mi σ 129 0 = nI n) (hG : Grn P n) (hn8 : n ≤ 8) (hN : Nrm σ n P) (hh : h < 8) :
    CX9_squaresSeen g d [.ref 149, .int (nI h)] σ (fun v s => v = lN (msk (cdE P n (sw56 h)) n) ∧ s = σ) := by
  generalize hQ : (fun (v : Int64) (s : PS) => v = lN (msk (cdE P n (sw56 h)) n) ∧ s = σ) = Q
  have hn := hG.pos
  have hwh := hG.wh
  have lx := (mxN_is (nX P n) n).1
  have ly := (mxN_is (nY P n) n).1
  obtain ⟨t0, t1, t2, t3, t4, t5⟩ := bt3 h hh
  -- the squares, one by one
  have mark : ∀ (z k : Nat), k + z = n → VX9_squaresSeen g d Q 55 [some (.ref 149), some (.int (nI h)), some (.int (nI (mxN (nX P n) n))), some (.int (nI (mxN (nY P n) n))), some (.long (lN (msk (cdE P n (sw56 h)) k))), none, some (.int (nI k)), none, none] [] σ := by
    intro z
    induction z with
    | zero =>
      intro k hz
      have : k = n := by omega
      subst this
      refine vcX9_squaresSeen_55 hL _ _ _ _ _ ⟨fun _ => ?_, fun q => absurd (by rw [h0]; exact Int32.le_refl _) q⟩
      rw [← hQ]
      exact ⟨rfl, rfl⟩
    | succ z ih =>
      intro k hz
      have hk : k < n := by omega
      have a1 := lx k hk
      have a2 := ly k hk
      have hcl := cdE_lt hG hn8 (sw56 h) hk
      have next : ∀ x : Int64, x = lN (msk (cdE P n (sw56 h)) k) ||| jlshl 1 (nI (cdE P n (sw56 h) k)) → ∀ y : Int32, y = nI k + 1 → VX9_squaresSeen g d Q 55 [some (.ref 149), some (.int (nI h)), some (.int (nI (mxN (nX P n) n))), some (.int (nI (mxN (nY P n) n))), some (.long x), none, some (.int y), none, none] [] σ := by
        intro x ex y ey
        rw [inc ey, ex, la_shl1 _ (by omega), la_or, ← msk_s]
        exact ih (k + 1) (by omega)
      have tail : ∀ t : Int32, t = nI (flp (h.testBit 0) (mxN (nX P n) n) (nX P n k)) → VX9_squaresSeen g d Q 92 [some (.ref 149), some (.int (nI h)), some (.int (nI (mxN (nX P n) n))), some (.int (nI (mxN (nY P n) n))), some (.long (lN (msk (cdE P n (sw56 h)) k))), none, some (.int (nI k)), none, none] [.int t] σ := by
        intro t et
        have hrow : ∀ x : Int32, x = nI (flp (h.testBit 1) (mxN (nY P n) n) (nY P n k)) → (¬ (nI h &&& 4 = 0) → jlshl 1 ((t * 8) + x) = jlshl 1 (nI (cdE P n (sw56 h) k))) ∧ ((nI h &&& 4 = 0) → jlshl 1 ((x * 8) + t) = jlshl 1 (nI (cdE P n (sw56 h) k))) := by
          intro x ex
          rw [t2]
          constructor
          · intro q
            have q : h.testBit 2 = true := by
              cases w : h.testBit 2 with
              | true => rfl
              | false => exact absurd w q
            obtain ⟨u0, u1⟩ := t5 q
            have : cdE P n (sw56 h) k = 8 * flp (h.testBit 0) (mxN (nX P n) n) (nX P n k) + flp (h.testBit 1) (mxN (nY P n) n) (nY P n k) := by
              unfold cdE cdW
              rw [t3, q, u0, u1]
            rw [this, et, ex, lit32 8, pk_mul, nI_add, Nat.mul_comm]
          · intro q
            obtain ⟨u0, u1⟩ := t4 q
            have : cdE P n (sw56 h) k = 8 * flp (h.testBit 1) (mxN (nY P n) n) (nY P n k) + flp (h.testBit 0) (mxN (nX P n) n) (nX P n k) := by
              unfold cdE cdW
              rw [t3, q, u0, u1]
            rw [this, et, ex, lit32 8, pk_mul, nI_add, Nat.mul_comm]
        refine vcX9_squaresSeen_92 hL _ _ _ _ _ _ ?_
        rw [zIN (by omega) (by omega), zCL (by omega), (hN k hk).2]
        refine ⟨fun q1 => ⟨by omega, fun x12 e12 => ?_⟩, fun q1 => ⟨by omega, fun x23 e23 => ?_⟩⟩
        · obtain ⟨r1, r2⟩ := hrow x12 (by rw [e12, (flp_sub a2).2 (fun w => q1 (by rw [t1]; exact w))])
          exact ⟨fun q2 x14 e14 => next x14 (by rw [e14, r1 q2]), fun q2 x18 e18 => next x18 (by rw [e18, r2 q2])⟩
        · obtain ⟨r1, r2⟩ := hrow x23 (by rw [e23, (flp_sub a2).1 (by rw [t1] at q1; exact q1)])
          exact ⟨fun q2 x14 e14 => next x14 (by rw [e14, r1 q2]), fun q2 x18 e18 => next x18 (by rw [e18, r2 q2])⟩
      refine vcX9_squaresSeen_55 hL _ _ _ _ _ ⟨fun q => ?_, fun _ => ?_⟩
      · rw [h0, zLE (by omega) (by omega)] at q
        omega
      rw [zIN (by omega) (by omega), zCL (by omega), (hN k hk).1]
      exact ⟨fun q => ⟨by omega, tail _ (by rw [(flp_sub a1).2 (fun w => q (by rw [t0]; exact w))])⟩, fun q => ⟨by omega, tail _ (by rw [(flp_sub a1).1 (by rw [t0] at q; exact q)])⟩⟩
  have size : ∀ (z k : Nat), k + z = n → VX9_squaresSeen g d Q 7 [some (.ref 149), some (.int (nI h)), some (.int (nI (mxN (nX P n) k))), some (.int (nI (mxN (nY P n) k))), some (.int (nI k)), none, none, none, none] [] σ := by
    intro z
    induction z with
    | zero =>
      intro k hz
      have : k = n := by omega
      subst this
      refine vcX9_squaresSeen_7 hL _ _ _ _ ⟨fun _ => mark k 0 (by omega), fun q => absurd (by rw [h0]; exact Int32.le_refl _) q⟩
    | succ z ih =>
      intro k hz
      have hk : k < n := by omega
      have a1 := lx k hk
      have a2 := ly k hk
      have m1 : mxN (nX P n) k ≤ mxN (nX P n) n ∧ mxN (nY P n) k ≤ mxN (nY P n) n := by
        constructor
        · rcases (mxN_is (nX P n) k).2 with q | ⟨c, c1, c2⟩
          · omega
          · rw [← c2]; exact lx c (by omega)
        · rcases (mxN_is (nY P n) k).2 with q | ⟨c, c1, c2⟩
          · omega
          · rw [← c2]; exact ly c (by omega)
      refine vcX9_squaresSeen_7 hL _ _ _ _ ⟨fun q => ?_, fun _ => ?_⟩
      · rw [h0, zLE (by omega) (by omega)] at q
        omega
      rw [zIN (by omega) (by omega), zCL (by omega), (hN k hk).1, (hN k hk).2, zMAX (by omega) (by omega), zMAX (by omega) (by omega)]
      refine ⟨by omega, fun x2 e2 => ⟨by omega, fun x5 e5 x7 e7 => ?_⟩⟩
      rw [inc e7, e2, e5]
      exact ih (k + 1) (by omega)
  exact vcX9_squaresSeen hL _ (size n 0 (by omega))
