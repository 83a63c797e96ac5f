/-! ===== the reference lays a tree flat ===== -/
def JoM (s : PS) (J : List Nat) : Prop := mi s 179 67 = nI J.length ∧ ∀ (i q : Nat), J[i]? = some q → mi s 220 i = nI q
def ChM (s : PS) (J l : List Nat) : Prop := ∀ (i q : Nat), l.reverse[i]? = some q → ∃ k, mi s 227 i = nI k ∧ J[k]? = some q
/-- the sides looked at in a round, one after the other -/
def qk (f : Nat → Nat) (l : List Nat) (k : Nat) : Nat := if k % 2 = 0 then l.reverse.getD (k / 2) 0 else f (l.reverse.getD (k / 2) 0)
theorem qk_get {l : List Nat} {i : Nat} (h : i < l.length) : ∃ e, l.reverse[i]? = some e ∧ e ∈ l ∧ l.reverse.getD i 0 = e := by
  have hi : i < l.reverse.length := by rw [List.length_reverse]; exact h
  refine ⟨l.reverse[i], List.getElem?_eq_getElem hi, List.mem_reverse.mp (List.getElem_mem hi), ?_⟩
  rw [List.getD_eq_getElem?_getD, List.getElem?_eq_getElem hi]
  rfl
theorem qk_all {f : Nat → Nat} {l : List Nat} {e : Nat} (h : e ∈ l) : (∃ k, k < 2 * l.length ∧ qk f l k = e) ∧ ∃ k, k < 2 * l.length ∧ qk f l k = f e := by
  obtain ⟨i, hi, he⟩ := List.getElem_of_mem (List.mem_reverse.mpr h)
  have hg : l.reverse.getD i 0 = e := by
    rw [List.getD_eq_getElem?_getD, List.getElem?_eq_getElem hi, he]
    rfl
  rw [List.length_reverse] at hi
  refine ⟨⟨2 * i, by omega, ?_⟩, 2 * i + 1, by omega, ?_⟩
  · unfold qk
    rw [if_pos (by omega), show 2 * i / 2 = i by omega, hg]
  · unfold qk
    rw [if_neg (by omega), show (2 * i + 1) / 2 = i by omega, hg]
abbrev chFm : Nat → Nat → Prop := fun a _ => 221 ≤ a ∧ a ≤ 223
def FlI (s : PS) (n : Nat) (P : Nat → PLc) (m : Nat) : Prop := m.testBit 0 = true ∧ (∀ c, m.testBit c = true → c < n) ∧ ∀ c, c < n → m.testBit c = true → mi s 221 c = iI (P c).1 ∧ mi s 222 c = iI (P c).2.1 ∧ mi s 223 c = nI (P c).2.2
theorem FlI.lt {s : PS} {n m : Nat} {P : Nat → PLc} (h : FlI s n P m) (hn8 : n ≤ 8) : m < 256 := by
  have : m < 2 ^ 8 := Nat.lt_pow_two_of_testBit m (fun i hi => by
    cases e : m.testBit i with
    | false => rfl
    | true => have := h.2.1 i e; omega)
  exact this
theorem or_bit2 (m d i : Nat) : (m ||| 2 ^ d).testBit i = (m.testBit i || i == d) := by
  rw [Nat.testBit_or, Nat.testBit_two_pow]
  congr 1
  apply Bool.eq_iff_iff.mpr
  rw [decide_eq_true_eq, beq_iff_eq]
  exact eq_comm
/-- one side looked at -/
theorem fl_87 {g : GV} {d n k r L m : Nat} {f : Nat → Nat} {l : List Nat} {P : Nat → PLc} {q : Nat} {Q : Int32 → PS → Prop} {τ : PS} (hL : Lay τ) (hn8 : n ≤ 8) (hq : q < 4 * n) (hBY : BY τ n f) (ht : ∀ i, (P i).2.2 < 4) (hco : P (f q / 4) = stp f (P (q / 4)) q) (hI : FlI τ n P m)
    (hgo : ∀ s m', FlI s n P m' → (∀ c, m.testBit c = true → m'.testBit c = true) → (m.testBit (q / 4) = true → m'.testBit (f q / 4) = true) → Ch chFm noL τ s → VX12_isFlat g (d + 1) Q 36 [some (.ref 179), some (.int (nI L)), some (.int (nI m')), some (.int (nI r)), some (.int (nI (k + 1))), none, none, none, none, none] [] s) :
    VX12_isFlat g (d + 1) Q 87 [some (.ref 179), some (.int (nI L)), some (.int (nI m)), some (.int (nI r)), some (.int (nI k)), none, none, none, none, none] [.int (nI q)] τ := by
  obtain ⟨f1, f2⟩ := hBY.2 q hq
  have hm := hI.lt hn8
  refine vcX12_isFlat_87 hL _ _ _ _ _ ?_
  rw [zIN (by omega) (by omega), zCL (by omega), f2]
  refine ⟨by omega, fun x25 e25 x27 e27 x29 e29 => ?_⟩
  subst e25
  rw [lit32 4, zDIV (by omega) (by omega) (by omega)] at e27 e29
  subst e27 e29
  have i01' : ∀ b : Bool, ((if b = true then (1 : Int32) else 0) = 0 ↔ b = false) ∧ ((if b = true then (1 : Int32) else 0) = 1 ↔ b = true) := by decide
  rw [zBIT (by omega) (by omega), zBIT (by omega) (by omega)]
  refine ⟨fun h x31 e31 => ?_, fun h => ⟨fun h2 => ?_, fun h2 x55 e55 => ?_⟩⟩
  · rw [inc e31]
    refine hgo τ m hI (fun _ h => h) (fun w => ?_) Ch.rf
    rw [w] at h
    exact absurd h (by decide)
  · have hc : m.testBit (q / 4) = true := by
      cases w : m.testBit (q / 4) with
      | true => rfl
      | false => rw [w] at h; exact absurd rfl h
    have hd : m.testBit (f q / 4) = false := by
      cases w : m.testBit (f q / 4) with
      | false => rfl
      | true => rw [w] at h2; exact absurd rfl h2
    obtain ⟨v1, v2, v3⟩ := hI.2.2 (q / 4) (by omega) hc
    have htc := ht (q / 4)
    rw [zIN (by omega) (by omega), zIN (by omega) (by omega), zCL (by omega), zCL (by omega), v3]
    refine ⟨by omega, fun x34 e34 => ?_⟩
    rw [lit32 4, zREM (by omega) (by omega) (by omega), nI_add, pk_sub (by omega), zREM (by omega) (by omega) (by omega)] at e34
    have hgl : (q % 4 + 4 - (P (q / 4)).2.2) % 4 < 4 := Nat.mod_lt _ (by decide)
    have hcx : (P (f q / 4)).1 = (P (q / 4)).1 + dX ((q % 4 + 4 - (P (q / 4)).2.2) % 4) := by rw [hco]; rfl
    have hcy : (P (f q / 4)).2.1 = (P (q / 4)).2.1 + dY ((q % 4 + 4 - (P (q / 4)).2.2) % 4) := by rw [hco]; rfl
    have hct : (P (f q / 4)).2.2 = (f q % 4 + 6 - (q % 4 + 4 - (P (q / 4)).2.2) % 4) % 4 := by rw [hco]; rfl
    generalize hgd : (q % 4 + 4 - (P (q / 4)).2.2) % 4 = gg at *
    subst e34
    refine ⟨by omega, Ct.imp (sp_east hL hgl) (fun rr s37 w => ?_)⟩
    obtain ⟨v, rfl, rfl, rfl⟩ := w
    refine ⟨_, rfl, Fr.rf, by omega, fun s40 e40 => ?_⟩
    have c40 : Ch chFm noL s37 s40 := by rw [e40]; exact (Ch.rf : Ch chFm noL s37 s37).si (by omega)
    refine ⟨by omega, Ct.imp (sp_north (c40.lay hL) hgl) (fun rr s43 w => ?_)⟩
    obtain ⟨v, rfl, rfl, rfl⟩ := w
    refine ⟨_, rfl, Fr.rf, by omega, fun s46 e46 => ⟨by omega, fun s49 e49 x51 e51 x53 e53 => ?_⟩⟩
    rw [zOR1 (by omega)] at e51
    rw [e51, inc e53]
    have c49 : Ch chFm noL s37 s49 := by
      rw [e49, e46]
      exact (c40.si (by omega)).si (by omega)
    have hne : f q / 4 ≠ q / 4 := fun e => by rw [e, hc] at hd; cases hd
    have y40 : mi s43 222 (q / 4) = iI (P (q / 4)).2.1 := by rw [e40, mi_si, if_neg (by omega)]; exact v2
    refine hgo s49 (m ||| 2 ^ (f q / 4)) ⟨?_, fun c h => ?_, fun c hcn h => ?_⟩ (fun c h => by rw [or_bit2, h]; rfl) (fun _ => by rw [or_bit2]; simp) c49
    · rw [or_bit2, hI.1]; rfl
    · rw [or_bit2, Bool.or_eq_true, beq_iff_eq] at h
      rcases h with h | h
      · exact hI.2.1 c h
      · rw [h]; omega
    · by_cases e : c = f q / 4
      · subst e
        refine ⟨?_, ?_, ?_⟩
        · rw [e49, mi_si, if_neg (by omega), e46, mi_si, if_neg (by omega), e40, mi_si, if_pos ⟨rfl, rfl⟩, v1, (iI_sx gg hgl).1, iI_add, hcx]
        · rw [e49, mi_si, if_neg (by omega), e46, mi_si, if_pos ⟨rfl, rfl⟩, y40, (iI_sx gg hgl).2, iI_add, hcy]
        · rw [e49, mi_si, if_pos ⟨rfl, rfl⟩, lit32 4, zREM (by omega) (by omega) (by omega), lit32 8, nI_add, pk_sub (by omega), lit32 2, pk_sub (by omega), zREM (by omega) (by omega) (by omega), hct]
          congr 1
          omega
      · rw [or_bit2, Bool.or_eq_true, beq_iff_eq] at h
        obtain ⟨k1, k2, k3⟩ := hI.2.2 c hcn (h.resolve_right e)
        rw [e49, mi_si, mi_si, mi_si, if_neg (by omega), if_neg (by omega), if_neg (by omega), e46, mi_si, mi_si, mi_si, if_neg (by omega), if_neg (by omega), if_neg (by omega), e40, mi_si, mi_si, mi_si, if_neg (by omega), if_neg (by omega), if_neg (by omega)]
        exact ⟨k1, k2, k3⟩
  · rw [inc e55]
    refine hgo τ m hI (fun _ h => h) (fun _ => ?_) Ch.rf
    exact ((i01' _).2).mp h2
/-- a round -/
theorem fl_36 {g : GV} {d n r m0 : Nat} {f : Nat → Nat} {J l : List Nat} {P : Nat → PLc} {Q : Int32 → PS → Prop} (hn8 : n ≤ 8) (hff : ∀ q, q < 4 * n → f (f q) = q) (hl : l.length + 1 = n) (hln : ∀ q, q ∈ l → q < 4 * n) (hJ40 : J.length ≤ 40) (ht : ∀ i, (P i).2.2 < 4) (hP : ∀ q, q ∈ l → Coh f P q) : ∀ (z k m : Nat) (τ : PS), k + z = 2 * l.length → Lay τ → BY τ n f → JoM τ J → ChM τ J l → FlI τ n P m → (∀ c, m0.testBit c = true → m.testBit c = true) → (∀ k', k' < k → m0.testBit (qk f l k' / 4) = true → m.testBit (f (qk f l k') / 4) = true) →
    (∀ s m', FlI s n P m' → (∀ c, m0.testBit c = true → m'.testBit c = true) → (∀ k', k' < 2 * l.length → m0.testBit (qk f l k' / 4) = true → m'.testBit (f (qk f l k') / 4) = true) → Ch chFm noL τ s → VX12_isFlat g (d + 1) Q 25 [some (.ref 179), some (.int (nI l.length)), some (.int (nI m')), some (.int (nI (r + 1))), none, none, none, none, none, none] [] s) →
    VX12_isFlat g (d + 1) Q 36 [some (.ref 179), some (.int (nI l.length)), some (.int (nI m)), some (.int (nI r)), some (.int (nI k)), none, none, none, none, none] [] τ := by
  intro z
  induction z with
  | zero =>
    intro k m τ hz hL hBY hJo hCh hI hm0 hdone hgo
    have : k = 2 * l.length := by omega
    subst this
    refine vcX12_isFlat_36 hL _ _ _ _ ⟨fun _ x7 e7 => ?_, fun q => absurd (by rw [lit32 2, pk_mul]; exact Int32.le_refl _) q⟩
    rw [inc e7]
    exact hgo τ m hI hm0 hdone Ch.rf
  | succ z ih =>
    intro k m τ hz hL hBY hJo hCh hI hm0 hdone hgo
    obtain ⟨e, he1, he2, he3⟩ := qk_get (l := l) (i := k / 2) (by omega)
    obtain ⟨w, hw1, hw2⟩ := hCh (k / 2) e he1
    have hw3 := (List.getElem?_eq_some_iff.mp hw2).1
    have hw4 := hJo.2 w e hw2
    have hen := hln e he2
    obtain ⟨f1, f2⟩ := hBY.2 e hen
    have hqn : qk f l k < 4 * n ∧ P (f (qk f l k) / 4) = stp f (P (qk f l k / 4)) (qk f l k) := by
      unfold qk
      rw [he3]
      split
      · exact ⟨hen, hP e he2⟩
      · refine ⟨f1, ?_⟩
        exact (hP e he2).sym (hff e hen) (ht _)
    have step : VX12_isFlat g (d + 1) Q 87 [some (.ref 179), some (.int (nI l.length)), some (.int (nI m)), some (.int (nI r)), some (.int (nI k)), none, none, none, none, none] [.int (nI (qk f l k))] τ := by
      refine fl_87 (l := l) hL hn8 hqn.1 hBY ht hqn.2 hI (fun s m' a1 a2 a3 a4 => ?_)
      refine ih (k + 1) m' s (by omega) (a4.lay hL) ⟨hBY.1, fun q hq => ⟨(hBY.2 q hq).1, by rw [a4.i (by omega)]; exact (hBY.2 q hq).2⟩⟩ ⟨by rw [a4.i (by omega)]; exact hJo.1, fun i q hq => by rw [a4.i (by omega)]; exact hJo.2 i q hq⟩ (fun i q hq => by
        obtain ⟨k, k1, k2⟩ := hCh i q hq
        exact ⟨k, by rw [a4.i (by omega)]; exact k1, k2⟩) a1 (fun c h => a2 c (hm0 c h)) (fun k' hk' h => ?_) (fun s2 m2 b1 b2 b3 b4 => hgo s2 m2 b1 b2 b3 (a4.trans b4))
      by_cases ek : k' = k
      · subst ek
        exact a3 (hm0 _ h)
      · exact a2 _ (hdone k' (by omega) h)
    refine vcX12_isFlat_36 hL _ _ _ _ ⟨fun q => ?_, fun _ => ?_⟩
    · rw [lit32 2, pk_mul, zLE (by omega) (by omega)] at q
      omega
    rw [lit32 2, zREM (by omega) (by omega) (by omega), zDIV (by omega) (by omega) (by omega), zIN (by omega) (by omega), zCL (by omega), hw1, zIN (by omega) (by omega), zCL (by omega), hw4, zIN (by omega) (by omega), zCL (by omega), f2, nI0 (by omega)]
    refine ⟨fun q => ⟨by omega, by omega, by omega, ?_⟩, fun q => ⟨by omega, by omega, ?_⟩⟩
    · have : qk f l k = f e := by unfold qk; rw [if_neg q, he3]
      rw [this] at step
      exact step
    · have : qk f l k = e := by unfold qk; rw [if_pos q, he3]
      rw [this] at step
      exact step
theorem fl_25 {g : GV} {d n : Nat} {f : Nat → Nat} {J l : List Nat} {P : Nat → PLc} {Q : Int32 → PS → Prop} (hn8 : n ≤ 8) (hf : ∀ q, q < 4 * n → f q < 4 * n) (hff : ∀ q, q < 4 * n → f (f q) = q) (hA : Acy f n l) (hl : l.length + 1 = n) (hJ40 : J.length ≤ 40) (ht : ∀ i, (P i).2.2 < 4) (hP : ∀ q, q ∈ l → Coh f P q) : ∀ (z r m : Nat) (τ : PS), r + z = n → Lay τ → mi τ 179 35 = nI n → BY τ n f → JoM τ J → ChM τ J l → FlI τ n P m → (r < cnt (fun c => m.testBit c) n ∨ cnt (fun c => m.testBit c) n = n) →
    (∀ s, Ch chFm noL τ s → (∀ c, c < n → mi s 221 c = iI (P c).1 ∧ mi s 222 c = iI (P c).2.1) → VX12_isFlat g (d + 1) Q 232 [some (.ref 179), none, none, some (.int (nI 0)), none, none, none, none, none, none] [] s) →
    VX12_isFlat g (d + 1) Q 25 [some (.ref 179), some (.int (nI l.length)), some (.int (nI m)), some (.int (nI r)), none, none, none, none, none, none] [] τ := by
  have hln : ∀ q, q ∈ l → q < 4 * n := fun q hq => acy_lt hA hq
  intro z
  induction z with
  | zero =>
    intro r m τ hz hL h35 hBY hJo hCh hI hcnt hgo
    have hr : r = n := by omega
    have hle := cnt_le (fun c => m.testBit c) n
    have hfull := cnt_all (p := fun c => m.testBit c) (n := n) (by omega)
    refine vcX12_isFlat_25 hL _ _ _ ⟨fun _ => ?_, fun q => absurd (by rw [h35, hr]; exact Int32.le_refl _) q⟩
    exact hgo τ Ch.rf (fun c hc => ⟨(hI.2.2 c hc (hfull c hc)).1, (hI.2.2 c hc (hfull c hc)).2.1⟩)
  | succ z ih =>
    intro r m τ hz hL h35 hBY hJo hCh hI hcnt hgo
    refine vcX12_isFlat_25 hL _ _ _ ⟨fun q => ?_, fun _ => ?_⟩
    · rw [h35, zLE (by omega) (by omega)] at q
      omega
    refine fl_36 (m0 := m) hn8 hff hl hln hJ40 ht hP (2 * l.length) 0 m τ (by omega) hL hBY hJo hCh hI (fun _ h => h) (fun k' hk' => by omega) (fun s m' a1 a2 a3 a4 => ?_)
    refine ih (r + 1) m' s (by omega) (a4.lay hL) (by rw [a4.i (by omega)]; exact h35) ⟨hBY.1, fun q hq => ⟨(hBY.2 q hq).1, by rw [a4.i (by omega)]; exact (hBY.2 q hq).2⟩⟩ ⟨by rw [a4.i (by omega)]; exact hJo.1, fun i q hq => by rw [a4.i (by omega)]; exact hJo.2 i q hq⟩ (fun i q hq => by
        obtain ⟨k, k1, k2⟩ := hCh i q hq
        exact ⟨k, by rw [a4.i (by omega)]; exact k1, k2⟩) a1 ?_ (fun s2 b1 b2 => hgo s2 (a4.trans b1) b2)
    have hmono := cnt_mono (p := fun c => m.testBit c) (q := fun c => m'.testBit c) (n := n) (fun i _ h => a2 i h)
    have hle := cnt_le (fun c => m'.testBit c) n
    by_cases hfl : cnt (fun c => m.testBit c) n = n
    · exact Or.inr (by omega)
    · left
      have hex : ∃ c, c < n ∧ m.testBit c = false := by
        refine Classical.byContradiction (fun hno => hfl ?_)
        have e := cnt_congr (p := fun c => m.testBit c) (q := fun _ => true) (n := n) (fun i hi => by
          cases w : m.testBit i with
          | true => rfl
          | false => exact absurd ⟨i, hi, w⟩ hno)
        rw [e, cnt_tt]
      obtain ⟨c, hc, hcm⟩ := hex
      have hq : ∃ q, q ∈ l ∧ ¬ (m.testBit (q / 4) = true ↔ m.testBit (f q / 4) = true) := by
        refine Classical.byContradiction (fun hno => ?_)
        have := (lbs_cl (f := f) (S := fun k => m.testBit k = true) l (fun q hq => Classical.byContradiction (fun w => hno ⟨q, hq, w⟩)) 0 c (by rw [lbs_one hf hA hl 0 (by omega), lbs_one hf hA hl c hc])).mp hI.1
        rw [hcm] at this
        cases this
      obtain ⟨q, hql, hne⟩ := hq
      have hqn := hln q hql
      obtain ⟨⟨k1, k2, k3⟩, k4, k5, k6⟩ := qk_all (f := f) hql
      have grow : ∀ dd, dd < n → m.testBit dd = false → m'.testBit dd = true → r + 1 < cnt (fun c => m'.testBit c) n := by
        intro dd hdd h1 h2
        have := cnt_lt (p := fun c => m.testBit c) (q := fun c => m'.testBit c) (n := n) (fun i _ h => a2 i h) hdd h1 h2
        rcases hcnt with h | h <;> omega
      cases w1 : m.testBit (q / 4) with
      | true =>
        have w2 : m.testBit (f q / 4) = false := by
          cases w : m.testBit (f q / 4) with
          | false => rfl
          | true => exact absurd (by rw [w1, w]) hne
        have := a3 k1 k2 (by rw [k3]; exact w1)
        rw [k3] at this
        exact grow _ (by have := hf q hqn; omega) w2 this
      | false =>
        have w2 : m.testBit (f q / 4) = true := by
          cases w : m.testBit (f q / 4) with
          | true => rfl
          | false => exact absurd (by rw [w1, w]) hne
        have := a3 k4 k5 (by rw [k6]; exact w2)
        rw [k6, hff q hqn] at this
        exact grow _ (by omega) w1 this
/-- no two cells on one square? -/
theorem fl_232 {g : GV} {d n : Nat} {P : Nat → PLc} {Q : Int32 → PS → Prop} {τ : PS} (hL : Lay τ) (hn8 : n ≤ 8) (h35 : mi τ 179 35 = nI n) (hLy : ∀ c, c < n → mi τ 221 c = iI (P c).1 ∧ mi τ 222 c = iI (P c).2.1) (hb : ∀ c, c < n → (-7 ≤ (P c).1 ∧ (P c).1 ≤ 7) ∧ -7 ≤ (P c).2.1 ∧ (P c).2.1 ≤ 7) (h1 : Flt P n → Q 1 τ) (h0 : ¬ Flt P n → Q 0 τ) : ∀ (z c : Nat), c + z = n → (∀ a b, a < c → b < a → ¬ ((P a).1 = (P b).1 ∧ (P a).2.1 = (P b).2.1)) →
    VX12_isFlat g (d + 1) Q 232 [some (.ref 179), none, none, some (.int (nI c)), none, none, none, none, none, none] [] τ := by
  intro z
  induction z with
  | zero =>
    intro c hz hno
    have : c = n := by omega
    subst this
    refine vcX12_isFlat_232 hL _ ⟨fun _ => h1 (fun a b ha hb' e1 e2 => ?_), fun q => absurd (by rw [h35]; exact Int32.le_refl _) q⟩
    rcases Nat.lt_trichotomy a b with w | w | w
    · exact absurd ⟨e1.symm, e2.symm⟩ (hno b a hb' w)
    · exact w
    · exact absurd ⟨e1, e2⟩ (hno a b ha w)
  | succ z ih =>
    intro c hz hno
    have hc : c < n := by omega
    have inner : ∀ (y e : Nat), e + y = c → (∀ b, b < e → ¬ ((P c).1 = (P b).1 ∧ (P c).2.1 = (P b).2.1)) → VX12_isFlat g (d + 1) Q 243 [some (.ref 179), none, none, some (.int (nI c)), some (.int (nI e)), none, none, none, none, none] [] τ := by
      intro y
      induction y with
      | zero =>
        intro e he hne
        have : e = c := by omega
        subst this
        refine vcX12_isFlat_243 hL _ _ ⟨fun _ x14 e14 => ?_, fun q => absurd (Int32.le_refl _) q⟩
        rw [inc e14]
        refine ih (e + 1) (by omega) (fun a b ha hba => ?_)
        by_cases w : a = e
        · rw [w] at hba ⊢; exact hne b hba
        · exact hno a b (by omega) hba
      | succ y ihy =>
        intro e he hne
        have hbc := hb c hc
        have hbe := hb e (by omega)
        refine vcX12_isFlat_243 hL _ _ ⟨fun q => ?_, fun _ => ?_⟩
        · rw [zLE (by omega) (by omega)] at q
          omega
        rw [zIN (by omega) (by omega), zIN (by omega) (by omega), zCL (by omega), zCL (by omega), (hLy c hc).1, (hLy c hc).2, (hLy e (by omega)).1, (hLy e (by omega)).2, iI_eq (by omega) (by omega), iI_eq (by omega) (by omega)]
        have next : ¬ ((P c).1 = (P e).1 ∧ (P c).2.1 = (P e).2.1) → ∀ x : Int32, x = nI e + 1 → VX12_isFlat g (d + 1) Q 243 [some (.ref 179), none, none, some (.int (nI c)), some (.int x), none, none, none, none, none] [] τ := by
          intro w x ex
          rw [inc ex]
          refine ihy (e + 1) (by omega) (fun b hb' => ?_)
          by_cases q : b = e
          · rw [q]; exact w
          · exact hne b (by omega)
        refine ⟨by omega, by omega, fun q => next (fun w => q w.1), fun q => ⟨by omega, by omega, fun q2 => next (fun w => q2 w.2), fun q2 => h0 (fun hF => ?_)⟩⟩
        have := hF c e hc (by omega) q q2
        omega
    refine vcX12_isFlat_232 hL _ ⟨fun q => ?_, fun _ => inner c 0 (by omega) (fun b hb => by omega)⟩
    rw [h35, zLE (by omega) (by omega)] at q
    omega
theorem sp_isFlat {g : GV} {d n : Nat} {f : Nat → Nat} {J l : List Nat} {P : Nat → PLc} {σ : PS} (hL : Lay σ) (hn8 : n ≤ 8) (hf : ∀ q, q < 4 * n → f q < 4 * n) (hff : ∀ q, q < 4 * n → f (f q) = q) (hA : Acy f n l) (hl : l.length + 1 = n) (hJ40 : J.length ≤ 40) (hP0 : P 0 = (0, 0, 0)) (ht : ∀ i, (P i).2.2 < 4) (hP : ∀ q, q ∈ l → Coh f P q) (h35 : mi σ 179 35 = nI n) (hBY : BY σ n f) (hJo : JoM σ J) (hCh : ChM σ J l) :
    CX12_isFlat g (d + 1) [.ref 179, .int (nI l.length)] σ (fun v s => ((Flt P n ∧ v = 1) ∨ (¬ Flt P n ∧ v = 0)) ∧ (∀ c, c < n → mi s 221 c = iI (P c).1 ∧ mi s 222 c = iI (P c).2.1) ∧ Ch chFm noL σ s) := by
  generalize hQ : (fun (v : Int32) (s : PS) => ((Flt P n ∧ v = 1) ∨ (¬ Flt P n ∧ v = 0)) ∧ (∀ c, c < n → mi s 221 c = iI (P c).1 ∧ mi s 222 c = iI (P c).2.1) ∧ Ch chFm noL σ s) = Q
  have hG : Grn P n := gro_ex hf hff hA hl ht hP
  refine vcX12_isFlat hL _ (fun s1 e1 s3 e3 s5 e5 => ?_)
  rw [lit32 0, zCL (by omega)] at e1 e3 e5
  have c5 : Ch chFm noL σ s5 := by
    rw [e5, e3, e1]
    exact (((Ch.rf : Ch chFm noL σ σ).si (by omega)).si (by omega)).si (by omega)
  have hb1 : ∀ c, Nat.testBit 1 c = true ↔ c = 0 := fun c => by
    rw [show (1 : Nat) = 2 ^ 0 from rfl, Nat.testBit_two_pow, decide_eq_true_eq]
    exact eq_comm
  refine fl_25 hn8 hf hff hA hl hJ40 ht hP n 0 1 s5 (by omega) (c5.lay hL) (by rw [c5.i (by omega)]; exact h35) ⟨hBY.1, fun q hq => ⟨(hBY.2 q hq).1, by rw [c5.i (by omega)]; exact (hBY.2 q hq).2⟩⟩ ⟨by rw [c5.i (by omega)]; exact hJo.1, fun i q hq => by rw [c5.i (by omega)]; exact hJo.2 i q hq⟩ (fun i q hq => by
        obtain ⟨k, k1, k2⟩ := hCh i q hq
        exact ⟨k, by rw [c5.i (by omega)]; exact k1, k2⟩) ⟨rfl, fun c h => by rw [(hb1 c).mp h]; omega, fun c hc h => ?_⟩ (Or.inl ?_) (fun s c hs => ?_)
  · rw [(hb1 c).mp h, hP0]
    refine ⟨?_, ?_, ?_⟩
    · rw [e5, mi_si, if_neg (by omega), e3, mi_si, if_neg (by omega), e1, mi_si, if_pos ⟨rfl, rfl⟩]; rfl
    · rw [e5, mi_si, if_neg (by omega), e3, mi_si, if_pos ⟨rfl, rfl⟩]; rfl
    · rw [e5, mi_si, if_pos ⟨rfl, rfl⟩]
  · have e := cnt_erase (p := fun c => Nat.testBit 1 c) (n := n) (k := 0) (by omega) rfl
    omega
  · refine fl_232 ((c5.trans c).lay hL) hn8 (by rw [c.i (by omega), c5.i (by omega)]; exact h35) hs (fun c hc => hG.bd hn8 hP0 hc) (fun hF => ?_) (fun hF => ?_) n 0 (by omega) (fun a b ha => by omega)
    · rw [← hQ]; exact ⟨Or.inl ⟨hF, rfl⟩, hs, c5.trans c⟩
    · rw [← hQ]; exact ⟨Or.inr ⟨hF, rfl⟩, hs, c5.trans c⟩
