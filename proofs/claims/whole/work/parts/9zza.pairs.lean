/-! ===== the class lists the pairs of sides; joins two groups ===== -/
theorem mr153 {s : PS} (h : Lay s) {i : Nat} (hi : i < 8) : mr s 153 i = some (154 + i) ∧ kd s (154 + i) = some (.inr (0, 8)) := by
  have : i = 0 ∨ i = 1 ∨ i = 2 ∨ i = 3 ∨ i = 4 ∨ i = 5 ∨ i = 6 ∨ i = 7 := by omega
  rcases this with rfl | rfl | rfl | rfl | rfl | rfl | rfl | rfl
  · exact ⟨mr_153_0 h, kd_154 h⟩
  · exact ⟨mr_153_1 h, kd_155 h⟩
  · exact ⟨mr_153_2 h, kd_156 h⟩
  · exact ⟨mr_153_3 h, kd_157 h⟩
  · exact ⟨mr_153_4 h, kd_158 h⟩
  · exact ⟨mr_153_5 h, kd_159 h⟩
  · exact ⟨mr_153_6 h, kd_160 h⟩
  · exact ⟨mr_153_7 h, kd_161 h⟩
def jlP (f : Nat → Nat) (q : Nat) : Bool := decide (q / 4 < f q / 4)
def jl (f : Nat → Nat) (k : Nat) : List Nat := (List.range k).filter (jlP f)
theorem jl_s (f : Nat → Nat) (k : Nat) : jl f (k + 1) = jl f k ++ (if jlP f k then [k] else []) := by
  unfold jl
  rw [List.range_succ, List.filter_append]
  congr 1
  cases h : jlP f k <;> simp [h]
theorem flt_len (p : Nat → Bool) : ∀ k, ((List.range k).filter p).length = cnt p k := by
  intro k
  induction k with
  | zero => rfl
  | succ k ih =>
    rw [List.range_succ, List.filter_append, List.length_append, ih, cnt_s]
    cases h : p k <;> simp [h]
theorem jl_len {f : Nat → Nat} {n : Nat} (hf : ∀ q, q < 4 * n → f q < 4 * n) (hff : ∀ q, q < 4 * n → f (f q) = q) : (jl f (4 * n)).length ≤ 2 * n := by
  have h1 : cnt (jlP f) (4 * n) ≤ cnt (fun q => decide (f q / 4 < q / 4)) (4 * n) := cnt_le_inj (f := f) (4 * n) _ (fun i hi hp => by
    refine ⟨hf i hi, ?_⟩
    have := of_decide_eq_true hp
    exact decide_eq_true (by rw [hff i hi]; exact this)) (fun i j hi hj _ _ e => by
    have := congrArg f e
    rw [hff i hi, hff j hj] at this
    exact this)
  have h2 := cnt_split (p := fun q => jlP f q || decide (f q / 4 < q / 4)) (q := jlP f) (r := fun q => decide (f q / 4 < q / 4)) (n := 4 * n) (fun i _ => by
    unfold jlP
    by_cases a : i / 4 < f i / 4
    · by_cases b : f i / 4 < i / 4
      · omega
      · simp [a, b]
    · by_cases b : f i / 4 < i / 4
      · simp [a, b]
      · simp [a, b])
  have h3 := cnt_le (fun q => jlP f q || decide (f q / 4 < q / 4)) (4 * n)
  have h4 : (jl f (4 * n)).length = cnt (jlP f) (4 * n) := flt_len _ _
  omega
theorem jl_mono {f : Nat → Nat} {k m : Nat} (h : k ≤ m) : (jl f k).length ≤ (jl f m).length := by
  unfold jl
  rw [flt_len, flt_len]
  exact cnt_mono_n h
/-- the pairs listed -/
def PrL (s : PS) (f : Nat → Nat) (J : List Nat) : Prop := mi s 149 7 = nI J.length ∧ ∀ i q, J[i]? = some q → mi s 150 i = nI q ∧ mi s 151 i = nI (f q)
abbrev chLp : Nat → Nat → Prop := fun a i => a = 149 ∧ i = 7 ∨ 150 ≤ a ∧ a ≤ 152
theorem sp_listPairs {g : GV} {d n : Nat} {f : Nat → Nat} {σ : PS} (hL : Lay σ) (hB : BD σ 129 n f) (hn8 : n ≤ 8) (hff : ∀ q, q < 4 * n → f (f q) = q) :
    CX9_listPairs g d [.ref 149] σ (fun s => PrL s f (jl f (4 * n)) ∧ JF s f n [] ∧ Ch chLp noL σ s) := by
  generalize hP : (fun (s : PS) => PrL s f (jl f (4 * n)) ∧ JF s f n [] ∧ Ch chLp noL σ s) = P
  obtain ⟨b1, b2, b3⟩ := hB
  have hlen := jl_len (f := f) (n := n) (fun q hq => (b3 q hq).1) hff
  have loop : ∀ (z k : Nat) (s : PS), k + z = 4 * n → Ch chLp noL σ s → PrL s f (jl f k) → (∀ q, q < k → mi s 152 q = 0) → VX9_listPairs g d P 7 [some (.ref 149), some (.int (nI k)), none] [] s := by
    intro z
    induction z with
    | zero =>
      intro k s hz c hp h0
      have : k = 4 * n := by omega
      subst this
      refine vcX9_listPairs_7 (c.lay hL) _ ⟨fun _ => ?_, fun q => absurd (by rw [c.i (by omega), b1, lit32 4, pk_mul, zLE (by omega) (by omega)]; omega) q⟩
      rw [← hP]
      exact ⟨hp, fun q hq => by rw [h0 q hq, if_neg (by rw [jb_is]; exact fun w => w.elim (fun q => nomatch q) (fun q => nomatch q))], c⟩
    | succ z ih =>
      intro k s hz c hp h0
      have hk : k < 4 * n := by omega
      obtain ⟨f1, f2, f3⟩ := b3 k hk
      have hmo := jl_mono (f := f) (show k + 1 ≤ 4 * n by omega)
      rw [jl_s] at hmo
      refine vcX9_listPairs_7 (c.lay hL) _ ⟨fun q => ?_, fun _ => ?_⟩
      · rw [c.i (by omega), b1, lit32 4, pk_mul, zLE (by omega) (by omega)] at q
        omega
      rw [zIN (by omega) (by omega), zIN (by omega) (by omega), zCL (by omega)]
      refine ⟨by omega, fun s4 e4 => ⟨by omega, by omega, fun x8 e8 => ?_⟩⟩
      have c4' : Ch (fun a _ => a = 152) noL s s4 := by rw [e4]; exact Ch.rf.si rfl
      have c4 : Ch chLp noL σ s4 := c.trans (c4'.mono (fun a k h => by omega) (fun _ _ h => h))
      rw [c4.i (by omega), c4.i (by omega), f2, f3, lit32 4, pk_mul, nI_add, show f k / 4 * 4 + f k % 4 = f k by omega] at e8
      subst e8
      have p4 : PrL s4 f (jl f k) := ⟨by rw [c4'.i (by omega)]; exact hp.1, fun i q hq => by rw [c4'.i (by omega), c4'.i (by omega)]; exact hp.2 i q hq⟩
      have z4 : ∀ q, q < k + 1 → mi s4 152 q = 0 := by
        intro q hq
        rw [e4, mi_si]
        by_cases e : q = k
        · rw [if_pos ⟨rfl, e⟩]; rfl
        · rw [if_neg (fun w => e w.2)]; exact h0 q (by omega)
      rw [lit32 4, zDIV (by omega) (by omega) (by omega), zDIV (by omega) (by omega) (by omega), zLE (by omega) (by omega)]
      have skip : ¬ k / 4 < f k / 4 → ∀ x : Int32, x = nI k + 1 → VX9_listPairs g d P 7 [some (.ref 149), some (.int x), none] [] s4 := by
        intro hno x ex
        rw [inc ex]
        refine ih (k + 1) s4 (by omega) c4 ?_ z4
        rw [jl_s, show jlP f k = false from decide_eq_false hno]
        simpa using p4
      refine ⟨fun q x ex => skip (by omega) x ex, fun q => ?_⟩
      have hjp : jlP f k = true := decide_eq_true (by omega)
      rw [hjp, if_pos rfl, List.length_append, List.length_singleton] at hmo
      rw [p4.1, lit32 16, zLE (by omega) (by omega)]
      refine ⟨fun w => by omega, fun _ => ?_⟩
      rw [zIN (by omega) (by omega), zCL (by omega)]
      refine ⟨by omega, fun s15 e15 => ?_⟩
      have h7 : mi s15 149 7 = nI (jl f k).length := by rw [e15, mi_si, if_neg (by omega)]; exact p4.1
      rw [h7, zIN (by omega) (by omega), zCL (by omega)]
      refine ⟨by omega, fun s18 e18 s20 e20 x22 e22 => ?_⟩
      have h7b : mi s18 149 7 = nI (jl f k).length := by rw [e18, mi_si, if_neg (by omega)]; exact h7
      rw [h7b, inc rfl] at e20
      rw [inc e22]
      have c20' : Ch (fun a i => a = 149 ∧ i = 7 ∨ a = 150 ∨ a = 151) noL s4 s20 := by
        rw [e20, e18, e15]
        exact ((Ch.rf.si (by omega)).si (by omega)).si (by omega)
      refine ih (k + 1) s20 (by omega) (c4.trans (c20'.mono (fun a k h => by omega) (fun _ _ h => h))) ?_ (fun q hq => by rw [c20'.i (by omega)]; exact z4 q hq)
      rw [jl_s, hjp, if_pos rfl]
      refine ⟨by rw [e20, mi_si, if_pos ⟨rfl, rfl⟩, List.length_append]; rfl, fun i q hq => ?_⟩
      by_cases hi : i < (jl f k).length
      · rw [List.getElem?_append_left hi] at hq
        obtain ⟨g1, g2⟩ := p4.2 i q hq
        rw [e20, mi_si, mi_si, if_neg (by omega), if_neg (by omega), e18, mi_si, mi_si, if_neg (by omega), if_neg (by omega), e15, mi_si, mi_si, if_neg (by omega), if_neg (by omega)]
        exact ⟨g1, g2⟩
      · rw [List.getElem?_append_right (by omega)] at hq
        have hi0 : i = (jl f k).length := by
          have := (List.getElem?_eq_some_iff.mp hq).1
          rw [List.length_singleton] at this
          omega
        rw [hi0, Nat.sub_self] at hq
        have hqk : k = q := Option.some.inj hq
        subst hqk
        rw [hi0, e20, mi_si, mi_si, if_neg (by omega), if_neg (by omega), e18, mi_si, mi_si, if_neg (by omega), if_pos ⟨rfl, rfl⟩, e15, mi_si, if_pos ⟨rfl, rfl⟩]
        exact ⟨rfl, rfl⟩
  refine vcX9_listPairs hL (fun s1 e1 => ?_)
  have c1 : Ch chLp noL σ s1 := by rw [e1]; exact (Ch.rf : Ch chLp noL σ σ).si (by omega)
  exact loop (4 * n) 0 s1 (by omega) c1 ⟨by rw [e1, mi_si, if_pos ⟨rfl, rfl⟩]; rfl, fun i q h => by simp [jl] at h⟩ (fun q hq => by omega)
theorem sp_joinGroups {g : GV} {d n c a b : Nat} {lab : Nat → Nat} {σ : PS} (hL : Lay σ) (h0 : mi σ 129 0 = nI n) (hn8 : n ≤ 8) (hc : c + 1 < 8) (hl : ∀ i, i < n → mi σ (154 + c) i = nI (lab i) ∧ lab i < 8) (ha : a < 8) (hb : b < 8) :
    CX9_joinGroups g d [.ref 149, .int (nI c), .int (nI a), .int (nI b)] σ (fun s => (∀ i, i < n → mi s (154 + (c + 1)) i = nI (mrg lab a b i)) ∧ Ch (fun x _ => x = 154 + (c + 1)) noL σ s) := by
  generalize hP : (fun (s : PS) => (∀ i, i < n → mi s (154 + (c + 1)) i = nI (mrg lab a b i)) ∧ Ch (fun x _ => x = 154 + (c + 1)) noL σ s) = P
  have loop : ∀ (z k : Nat) (s : PS), k + z = n → Ch (fun x _ => x = 154 + (c + 1)) noL σ s → (∀ i, i < k → mi s (154 + (c + 1)) i = nI (mrg lab a b i)) → VX9_joinGroups g d P 10 [some (.ref 149), some (.int (nI c)), some (.int (nI a)), some (.int (nI b)), some (.int (nI (min a b))), some (.int (nI k)), none] [] s := by
    intro z
    induction z with
    | zero =>
      intro k s hz cc hd
      have : k = n := by omega
      subst this
      refine vcX9_joinGroups_10 (cc.lay hL) _ _ _ _ _ ⟨fun _ => ?_, fun q => absurd (by rw [cc.i (by omega), h0]; exact Int32.le_refl _) q⟩
      rw [← hP]
      exact ⟨hd, cc⟩
    | succ z ih =>
      intro k s hz cc hd
      have hk : k < n := by omega
      obtain ⟨l1, l2⟩ := hl k hk
      have hLs := cc.lay hL
      obtain ⟨r1, r2⟩ := mr153 hLs (show c < 8 by omega)
      obtain ⟨r3, r4⟩ := mr153 hLs hc
      refine vcX9_joinGroups_10 hLs _ _ _ _ _ ⟨fun q => ?_, fun _ => ?_⟩
      · rw [cc.i (by omega), h0, zLE (by omega) (by omega)] at q
        omega
      rw [lit32 1, nI_add, zIN (by omega) (by omega), zIN (by omega) (by omega), zCL (by omega), zCL (by omega), zCL (by omega)]
      refine ⟨by omega, 154 + c, r1, 8, r2, by rw [zIN (by omega) (by omega)]; omega, fun x9 e9 => ?_⟩
      rw [cc.i (by omega), l1] at e9
      subst e9
      refine ⟨hc, 154 + (c + 1), r3, ?_⟩
      have next : ∀ s17 : PS, s17 = si s (154 + (c + 1)) k (nI (mrg lab a b k)) → ∀ x : Int32, x = nI k + nI 1 → VX9_joinGroups g d P 10 [some (.ref 149), some (.int (nI c)), some (.int (nI a)), some (.int (nI b)), some (.int (nI (min a b))), some (.int x), none] [] s17 := by
        intro s17 e17 x ex
        rw [nI_add] at ex
        rw [ex]
        refine ih (k + 1) s17 (by omega) (by rw [e17]; exact cc.si rfl) (fun i hi => ?_)
        rw [e17, mi_si]
        by_cases e : i = k
        · rw [if_pos ⟨rfl, e⟩, e]
        · rw [if_neg (fun w => e w.2)]; exact hd i (by omega)
      have k8 : vp_in (nI k) 8 := by rw [zIN (by omega) (by omega)]; omega
      rw [zEQ (by omega) (by omega), zEQ (by omega) (by omega)]
      refine ⟨fun q => ⟨8, r4, k8, fun s17 e17 => next s17 ?_⟩, fun q => ⟨fun q2 => ⟨8, r4, k8, fun s17 e17 => next s17 ?_⟩, fun q2 => ⟨8, r4, k8, fun s17 e17 => next s17 ?_⟩⟩⟩
      · rw [e17]; unfold mrg; rw [if_pos (Or.inl q)]
      · rw [e17]; unfold mrg; rw [if_neg (fun w => w.elim q q2)]
      · rw [e17]; unfold mrg; rw [if_pos (Or.inr q2)]
  refine vcX9_joinGroups hL _ _ _ (fun x1 e1 => ?_)
  rw [zMIN (by omega) (by omega)] at e1
  subst e1
  exact loop n 0 σ (by omega) Ch.rf (fun i hi => by omega)
