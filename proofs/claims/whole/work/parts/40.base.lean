/-! ===== reading a store behind writes; what a method leaves alone; small numbers ===== -/
theorem mi_sa (σ : PS) (a b : Nat) (f : Nat → Int32) : mi (sa σ a f) b = if b = a then f else mi σ b := rfl
theorem mi_si (σ : PS) (a i b j : Nat) (v : Int32) : mi (si σ a i v) b j = if b = a ∧ j = i then v else mi σ b j := by
  show (if b = a then upd (mi σ a) i v else mi σ b) j = _
  by_cases h : b = a
  · subst h
    by_cases h2 : j = i <;> simp [upd, h2]
  · simp [h]
theorem mi_sj (σ : PS) (a i : Nat) (v : Int64) : mi (sj σ a i v) = mi σ := rfl
theorem mi_sl (σ : PS) (a : Nat) (f : Nat → Int64) : mi (sl σ a f) = mi σ := rfl
theorem ml_si (σ : PS) (a i : Nat) (v : Int32) : ml (si σ a i v) = ml σ := rfl
theorem ml_sa (σ : PS) (a : Nat) (f : Nat → Int32) : ml (sa σ a f) = ml σ := rfl
theorem ml_sj (σ : PS) (a i b j : Nat) (v : Int64) : ml (sj σ a i v) b j = if b = a ∧ j = i then v else ml σ b j := by
  show (if b = a then vp_updL (ml σ a) i v else ml σ b) j = _
  by_cases h : b = a
  · subst h
    by_cases h2 : j = i <;> simp [vp_updL, h2]
  · simp [h]
theorem mr_si (σ : PS) (a i : Nat) (v : Int32) : mr (si σ a i v) = mr σ := rfl
theorem mr_sj (σ : PS) (a i : Nat) (v : Int64) : mr (sj σ a i v) = mr σ := rfl
theorem mr_sa (σ : PS) (a : Nat) (f : Nat → Int32) : mr (sa σ a f) = mr σ := rfl
/-- s is σ but for the ints at the places of Pm and the longs of the arrays of Pl -/
def Ch (Pm : Nat → Nat → Prop) (Pl : Nat → Nat → Prop) (σ s : PS) : Prop := Fr σ s ∧ (∀ a k, ¬ Pm a k → mi s a k = mi σ a k) ∧ ∀ a k, ¬ Pl a k → ml s a k = ml σ a k
abbrev noL : Nat → Nat → Prop := fun _ _ => False
theorem Ch.rf {Pm Pl : Nat → Nat → Prop} {σ : PS} : Ch Pm Pl σ σ := ⟨Fr.rf, fun _ _ _ => rfl, fun _ _ _ => rfl⟩
theorem Ch.fr {Pm Pl : Nat → Nat → Prop} {σ s : PS} (h : Ch Pm Pl σ s) : Fr σ s := h.1
theorem Ch.lay {Pm Pl : Nat → Nat → Prop} {σ s : PS} (h : Ch Pm Pl σ s) (hL : Lay σ) : Lay s := hL.fr h.1
theorem Ch.i {Pm Pl : Nat → Nat → Prop} {σ s : PS} (h : Ch Pm Pl σ s) {a k : Nat} (hn : ¬ Pm a k) : mi s a k = mi σ a k := h.2.1 a k hn
theorem Ch.l {Pm Pl : Nat → Nat → Prop} {σ s : PS} (h : Ch Pm Pl σ s) {a k : Nat} (hn : ¬ Pl a k) : ml s a k = ml σ a k := h.2.2 a k hn
theorem Ch.trans {Pm Pl : Nat → Nat → Prop} {a b c : PS} (h : Ch Pm Pl a b) (k : Ch Pm Pl b c) : Ch Pm Pl a c := ⟨h.1.trans k.1, fun x y hn => (k.2.1 x y hn).trans (h.2.1 x y hn), fun x y hn => (k.2.2 x y hn).trans (h.2.2 x y hn)⟩
theorem Ch.mono {Pm Pl Qm Ql : Nat → Nat → Prop} {σ s : PS} (h : Ch Pm Pl σ s) (hm : ∀ a k, Pm a k → Qm a k) (hl : ∀ a k, Pl a k → Ql a k) : Ch Qm Ql σ s := ⟨h.1, fun a k hn => h.2.1 a k (fun q => hn (hm a k q)), fun a k hn => h.2.2 a k (fun q => hn (hl a k q))⟩
theorem Ch.si {Pm Pl : Nat → Nat → Prop} {σ s : PS} {a i : Nat} {v : Int32} (h : Ch Pm Pl σ s) (hp : Pm a i) : Ch Pm Pl σ (si s a i v) := by
  refine ⟨h.1, fun b k hn => ?_, h.2.2⟩
  rw [mi_si, if_neg (fun q => hn (by rw [q.1, q.2]; exact hp))]
  exact h.2.1 b k hn
theorem Ch.sa {Pm Pl : Nat → Nat → Prop} {σ s : PS} {a : Nat} {f : Nat → Int32} (h : Ch Pm Pl σ s) (hp : ∀ k, Pm a k ∨ f k = mi s a k) : Ch Pm Pl σ (sa s a f) := by
  refine ⟨h.1, fun b k hn => ?_, h.2.2⟩
  rw [mi_sa]
  by_cases e : b = a
  · rw [if_pos e]
    subst e
    rcases hp k with q | q
    · exact absurd q hn
    · rw [q]
      exact h.2.1 b k hn
  · rw [if_neg e]
    exact h.2.1 b k hn
theorem Ch.sj {Pm Pl : Nat → Nat → Prop} {σ s : PS} {a i : Nat} {v : Int64} (h : Ch Pm Pl σ s) (hp : Pl a i) : Ch Pm Pl σ (sj s a i v) := by
  refine ⟨h.1, h.2.1, fun b k hn => ?_⟩
  rw [ml_sj, if_neg (fun q => hn (by rw [q.1, q.2]; exact hp))]
  exact h.2.2 b k hn
theorem lit32 (n : Nat) : (OfNat.ofNat n : Int32) = nI n := rfl
theorem nlt31 {n : Nat} (h : n < 2147483648) : n < 2 ^ 31 := h
theorem zLE {a b : Nat} (ha : a < 2147483648) (hb : b < 2147483648) : (nI a ≤ nI b) = (a ≤ b) := propext (nI_leI ha hb)
theorem zLT {a b : Nat} (ha : a < 2147483648) (hb : b < 2147483648) : (nI a < nI b) = (a < b) := propext (nI_ltI ha hb)
theorem zEQ {a b : Nat} (ha : a < 2147483648) (hb : b < 2147483648) : (nI a = nI b) = (a = b) := propext (nI_eq ha hb)
theorem zCL {a : Nat} (ha : a < 2147483648) : Int32.toNatClampNeg (nI a) = a := nI_clamp ha
theorem zIN {a n : Nat} (ha : a < 2147483648) (hn : n < 2147483648) : vp_in (nI a) n = (a < n) := by
  refine propext ⟨fun h => ?_, fun h => vp_in_nI h hn⟩
  rw [vp_in_iff, nI_toInt ha] at h
  omega
theorem zMIN {a b : Nat} (ha : a < 2147483648) (hb : b < 2147483648) : jmin (nI a) (nI b) = nI (min a b) := by
  unfold jmin
  by_cases h : b < a
  · rw [if_pos ((nI_ltI hb ha).mpr h), Nat.min_eq_right (by omega)]
  · rw [if_neg (fun q => h ((nI_ltI hb ha).mp q)), Nat.min_eq_left (by omega)]
theorem zMAX {a b : Nat} (ha : a < 2147483648) (hb : b < 2147483648) : jmax (nI a) (nI b) = nI (max a b) := by
  unfold jmax
  by_cases h : a < b
  · rw [if_pos ((nI_ltI ha hb).mpr h), Nat.max_eq_right (by omega)]
  · rw [if_neg (fun q => h ((nI_ltI ha hb).mp q)), Nat.max_eq_left (by omega)]
theorem zDIV {a d : Nat} (ha : a < 2147483648) (h0 : 0 < d) (hd : d < 2147483648) : nI a / nI d = nI (a / d) := pk_div ha h0 hd
theorem zREM {a d : Nat} (ha : a < 2147483648) (h0 : 0 < d) (hd : d < 2147483648) : jrem (nI a) (nI d) = nI (a % d) := pk_rem ha h0 hd
theorem zSUB {a b : Nat} (h : b ≤ a) : nI a - nI b = nI (a - b) := pk_sub h
/-- -1, as the classes' NONE -/
theorem m1_ne {n : Nat} (h : n < 2147483648) : ¬ nI n = -1 := fun e => by
  have := congrArg Int32.toInt e
  rw [nI_toInt h] at this
  have h2 : (-1 : Int32).toInt = -1 := by decide
  omega
theorem m1_lt : (-1 : Int32) < 0 := by decide
