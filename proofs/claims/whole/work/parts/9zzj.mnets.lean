/-! ===== the reference's nets ===== -/
def jmP (f : Nat → Nat) (q : Nat) : Bool := decide (q ≤ f q)
def jm (f : Nat → Nat) (k : Nat) : List Nat := (List.range k).filter (jmP f)
theorem jm_s (f : Nat → Nat) (k : Nat) : jm f (k + 1) = jm f k ++ (if jmP f k then [k] else []) := by
  unfold jm
  rw [List.range_succ, List.filter_append]
  congr 1
  cases h : jmP f k <;> simp [h]
theorem jm_len (f : Nat → Nat) (k : Nat) : (jm f k).length ≤ k := by
  unfold jm
  rw [flt_len]
  exact cnt_le _ _
theorem jm_jl (f : Nat → Nat) (k : Nat) : (jm f k).filter (fun q => !(q / 4 == f q / 4)) = jl f k := by
  unfold jm jl
  rw [List.filter_filter]
  congr 1
  funext q
  unfold jmP jlP
  apply Bool.eq_iff_iff.mpr
  rw [Bool.and_eq_true, Bool.not_eq_true', beq_eq_false_iff_ne, decide_eq_true_eq, decide_eq_true_eq]
  omega
theorem trU_jm (f : Nat → Nat) (n : Nat) : srch f n (jm f (4 * n)) [] (0, 0, []) = trU f n := by
  rw [srch_flt, jm_jl]
  rfl
abbrev chNm : Nat → Nat → Prop := fun a i => a = 179 ∧ (i = 0 ∨ i = 67 ∨ 73 ≤ i ∧ i ≤ 75) ∨ 220 ≤ a ∧ a ≤ 228 ∨ a = 215
theorem sp_nets12 {g : GV} {d n E : Nat} {x y : Nat → Nat} {m : Mat} {a : Int32} {σ : PS} (hL : Lay σ) (hF : MF σ n x y E) (hV : VF n x y E) (hM : MA σ 209 24 m) (hI : Inv E m) :
    CX12_nets g (d + 12) [.ref 179, .int a] σ (fun v s => netA n x y E m a v ∧ mi s 179 0 = 0 ∧ Ch chNm chCl σ s) := by
  generalize hQ : (fun (v : Int32) (s : PS) => netA n x y E m a v ∧ mi s 179 0 = 0 ∧ Ch chNm chCl σ s) = Q
  have hE := hV.2.2.2.2.2.2
  have hn := hV.2.1
  have hn0 := hV.1
  refine vcX12_nets hL _ (fun s1 e1 => ?_)
  have c1' : Ch (fun a k => a = 179 ∧ k = 0) noL σ s1 := by rw [e1]; exact Ch.rf.si ⟨rfl, rfl⟩
  have c1 : Ch chNm chCl σ s1 := c1'.mono (fun a k h => by omega) (fun _ _ h => h.elim)
  have hL1 := c1.lay hL
  have z1 : mi s1 179 0 = 0 := by rw [e1, mi_si, if_pos ⟨rfl, rfl⟩]
  have hM1 := hM.ch c1' (fun i _ => by omega)
  have hF1 := hF.ch c1' (by omega) (by omega) (fun a i h1 h2 => by omega)
  have no : ¬ (gcn E m = E ∧ n ≤ 8 ∧ ∃ j, j < 3 ∧ a = nI j) → Q (-1) s1 := fun h => by rw [← hQ]; exact ⟨Or.inr ⟨h, rfl⟩, z1, c1⟩
  refine Ct.imp (sp_within hL1) (fun r s3 z => ?_)
  obtain ⟨v, rfl, hv, rfl⟩ := z
  refine ⟨_, rfl, Fr.rf, fun h => ?_, fun h => ?_⟩
  · rw [i01 hv] at h
    refine no (fun w => h ?_)
    obtain ⟨-, -, j, j1, rfl⟩ := w
    rw [lit32 0, lit32 2, zLE (by omega) (by omega), zLE (by omega) (by omega)]
    omega
  rw [i01 hv, Classical.not_not] at h
  obtain ⟨j, j1, j2, rfl⟩ := wBt (lo := 0) (hi := 2) (by omega) (by omega) (Int32.not_lt.mpr h.1) (Int32.not_lt.mpr h.2)
  rw [hF1.1.1, lit32 8, zLT (by omega) (by omega)]
  refine ⟨fun h8 => no (fun w => by omega), fun h8 => ?_⟩
  have hn8 : n ≤ 8 := by omega
  refine Ct.imp (sp_isBody12 (d := d + 10) hL1 hE hF1.2.1 hM1 hI) (fun r s5 w => ?_)
  obtain ⟨v6, rfl, hv6, rfl⟩ := w
  refine ⟨_, rfl, Fr.rf, fun hb => ?_, fun hb => no (fun w => by rw [i01 hv6] at hb; exact hb w.1)⟩
  rw [i01 hv6, Classical.not_not] at hb
  have hm := hI.mt hb
  refine Ct.imp (lays0 (d := d + 9) hL1 hF1 hV hM1 hI hb) (fun r s7 w => ?_)
  obtain ⟨rfl, hY, c7⟩ := w
  refine ⟨rfl, c7.fr, fun s9 e9 => ?_⟩
  have c7' : Ch chNm chCl σ s7 := c1.trans (c7.mono (fun a k h => by unfold chY at h; omega) (fun _ _ h => h.elim))
  have z7 : mi s7 179 0 = 0 := by rw [c7.i (by unfold chY; omega)]; exact z1
  have h35 : mi s7 179 35 = nI n := by rw [c7.i (by unfold chY; omega)]; exact hF1.1.1
  have hff : ∀ q, q < 4 * n → bdf n x y E m (bdf n x y E m q) = q := fun q hq => bdy_inv hV hm hq
  generalize hfg : bdf n x y E m = f at *
  have hf : ∀ q, q < 4 * n → f q < 4 * n := fun q hq => (hY.2 q hq).1
  have hlen := jm_len f (4 * n)
  have base : ∀ s, Ch (fun a i => a = 179 ∧ (i = 67 ∨ 73 ≤ i ∧ i ≤ 75) ∨ a = 220 ∨ a = 226 ∨ a = 224) noL s7 s → Ch chNm chCl σ s ∧ mi s 179 0 = 0 ∧ mi s 179 35 = nI n ∧ BY s n f := fun s c => ⟨c7'.trans (c.mono (fun a k h => by omega) (fun _ _ h => h.elim)), by rw [c.i (by omega)]; exact z7, by rw [c.i (by omega)]; exact h35, hY.ch' c (fun i => by omega)⟩
  -- groups, then the search
  have groups : ∀ (z k : Nat) (s : PS), k + z = 10 → Ch (fun a i => a = 179 ∧ (i = 67 ∨ 73 ≤ i ∧ i ≤ 75) ∨ a = 220 ∨ a = 226 ∨ a = 224) noL s7 s → JoM s (jm f (4 * n)) → (∀ p, p < 32768 → mi s 226 p = -1) → (∀ i, i < k → mi s 224 i = nI i) → VX12_nets g (d + 11 + 1) Q 117 [some (.ref 179), some (.int (nI j)), some (.int (nI k))] [] s := by
    intro z
    induction z with
    | zero =>
      intro k s hz c hJ hsp hgr
      have : k = 10 := by omega
      subst this
      obtain ⟨b1, b2, b3, b4⟩ := base s c
      refine vcX12_nets_117 (b1.lay hL) _ _ ⟨fun _ s26 e26 s28 e28 s30 e30 => ?_, fun q => absurd (Int32.le_refl _) q⟩
      have c30' : Ch (fun a i => a = 179 ∧ 73 ≤ i ∧ i ≤ 75) noL s s30 := by rw [e30, e28, e26]; exact ((Ch.rf.si (by omega)).si (by omega)).si (by omega)
      have c30 := c.trans (c30'.mono (Qm := fun a i => a = 179 ∧ (i = 67 ∨ 73 ≤ i ∧ i ≤ 75) ∨ a = 220 ∨ a = 226 ∨ a = 224) (Ql := noL) (fun a k h => by omega) (fun _ _ h => h))
      obtain ⟨g1, g2, g3, g4⟩ := base s30 c30
      have hSt : StM s30 n (0, 0, []) := by
        refine ⟨?_, ?_, ?_, ⟨List.nodup_nil, fun s h => (nomatch h)⟩, fun _ => none, fun _ => 0, fun p hp => ⟨fun _ => by rw [c30'.i (by omega)]; exact hsp p hp, fun k q => (nomatch q)⟩, ht_0⟩
        · rw [e30, mi_si, if_neg (by omega), e28, mi_si, if_neg (by omega), e26, mi_si, if_pos ⟨rfl, rfl⟩]; rfl
        · rw [e30, mi_si, if_neg (by omega), e28, mi_si, if_pos ⟨rfl, rfl⟩]; rfl
        · rw [e30, mi_si, if_pos ⟨rfl, rfl⟩]; rfl
      have hGr : GrM s30 f n [] := by
        refine ⟨fun i => i, fun i => i, fun _ => 0, fun i hi => ⟨hi, hi, rfl, rfl, fun w => absurd rfl w, fun _ => rfl⟩, fun i j _ _ => Iff.rfl, fun i hi => ?_⟩
        rw [c30'.i (by omega)]
        exact hgr i (by omega)
      have key := sp_picks (g := g) (d := d + 10 - n) (J := jm f (4 * n)) hn0 hn8 hf hff (by omega) (fun q hq => by
        unfold jm at hq
        rw [List.mem_filter, List.mem_range] at hq
        exact hq.1) (n - 1) [] (by show 0 + 1 + (n - 1) = n; omega) 0 (0, 0, []) s30 (by omega) (g1.lay hL) g3 g4 (hJ.ch c30' (by omega) (fun i => by omega)) (fun i q hq => by simp at hq) True.intro hGr hSt
      rw [show d + 10 - n + (n - 1) + 2 = d + 11 by omega] at key
      refine Ct.imp key (fun r s32 w => ?_)
      obtain ⟨rfl, m1, m2, c32⟩ := w
      refine ⟨rfl, c32.fr, ?_⟩
      rw [List.drop_zero, trU_jm] at m1
      have c32' : Ch chNm chCl σ s32 := g1.trans (c32.mono (fun a k h => by omega) (fun _ _ h => h))
      have z32 : mi s32 179 0 = 0 := by rw [c32.i (by omega)]; exact g2
      have ans : ∀ v, v = netV f n j → Q v s32 := fun v e => by
        rw [← hQ]
        exact ⟨Or.inl ⟨hb, hn8, j, by omega, rfl, by rw [hfg]; exact e⟩, z32, c32'⟩
      rw [lit32 0, lit32 1, zEQ (by omega) (by omega), zEQ (by omega) (by omega)]
      refine ⟨fun k1 => ⟨fun k2 => ans _ ?_, fun k2 => ans _ ?_⟩, fun k1 => ans _ ?_⟩
      · unfold netV; rw [if_neg k1, if_neg k2]; exact m1.2.2.1
      · unfold netV; rw [if_neg k1, if_pos k2]; exact m1.2.1
      · unfold netV; rw [if_pos k1]; exact m1.1
    | succ z ih =>
      intro k s hz c hJ hsp hgr
      obtain ⟨b1, b2, b3, b4⟩ := base s c
      refine vcX12_nets_117 (b1.lay hL) _ _ ⟨fun q => ?_, fun _ => ?_⟩
      · rw [lit32 10, zLE (by omega) (by omega)] at q
        omega
      rw [zIN (by omega) (by omega), zCL (by omega)]
      refine ⟨by omega, fun s35 e35 x37 e37 => ?_⟩
      rw [inc e37]
      have c35 : Ch (fun a _ => a = 224) noL s s35 := by rw [e35]; exact (Ch.rf : Ch (fun a _ => a = 224) noL s s).si rfl
      refine ih (k + 1) s35 (by omega) (c.trans (c35.mono (fun a k h => by omega) (fun _ _ h => h))) (hJ.ch c35 (by omega) (fun i => by omega)) (fun p hp => by rw [c35.i (by omega)]; exact hsp p hp) (fun i hi => ?_)
      rw [e35, mi_si]
      by_cases e : i = k
      · rw [if_pos ⟨rfl, e⟩, e]
      · rw [if_neg (fun w => e w.2)]; exact hgr i (by omega)
  have spots : ∀ (z k : Nat) (s : PS), k + z = 32768 → Ch (fun a i => a = 179 ∧ (i = 67 ∨ 73 ≤ i ∧ i ≤ 75) ∨ a = 220 ∨ a = 226 ∨ a = 224) noL s7 s → JoM s (jm f (4 * n)) → (∀ p, p < k → mi s 226 p = -1) → VX12_nets g (d + 11 + 1) Q 96 [some (.ref 179), some (.int (nI j)), some (.int (nI k))] [] s := by
    intro z
    induction z with
    | zero =>
      intro k s hz c hJ hsp
      obtain ⟨b1, b2, b3, b4⟩ := base s c
      refine vcX12_nets_96 (b1.lay hL) _ _ ⟨fun _ => ?_, fun q => absurd (by rw [lit32 32768, zLE (by omega) (by omega)]; omega) q⟩
      exact groups 10 0 s rfl c hJ (fun p hp => hsp p (by omega)) (fun i hi => by omega)
    | succ z ih =>
      intro k s hz c hJ hsp
      obtain ⟨b1, b2, b3, b4⟩ := base s c
      refine vcX12_nets_96 (b1.lay hL) _ _ ⟨fun q => ?_, fun _ => ?_⟩
      · rw [lit32 32768, zLE (by omega) (by omega)] at q
        omega
      rw [zIN (by omega) (by omega), zCL (by omega)]
      refine ⟨by omega, fun s22 e22 x24 e24 => ?_⟩
      rw [inc e24]
      have c22 : Ch (fun a _ => a = 226) noL s s22 := by rw [e22]; exact (Ch.rf : Ch (fun a _ => a = 226) noL s s).si rfl
      refine ih (k + 1) s22 (by omega) (c.trans (c22.mono (fun a k h => by omega) (fun _ _ h => h))) (hJ.ch c22 (by omega) (fun i => by omega)) (fun p hp => ?_)
      rw [e22, mi_si]
      by_cases e : p = k
      · rw [if_pos ⟨rfl, e⟩]
      · rw [if_neg (fun w => e w.2)]; exact hsp p (by omega)
  have joints : ∀ (z k : Nat) (s : PS), k + z = 4 * n → Ch (fun a i => a = 179 ∧ (i = 67 ∨ 73 ≤ i ∧ i ≤ 75) ∨ a = 220 ∨ a = 226 ∨ a = 224) noL s7 s → JoM s (jm f k) → VX12_nets g (d + 11 + 1) Q 45 [some (.ref 179), some (.int (nI j)), some (.int (nI k))] [] s := by
    intro z
    induction z with
    | zero =>
      intro k s hz c hJ
      have : k = 4 * n := by omega
      subst this
      obtain ⟨b1, b2, b3, b4⟩ := base s c
      refine vcX12_nets_45 (b1.lay hL) _ _ ⟨fun _ => ?_, fun q => absurd (by rw [b3, lit32 4, pk_mul]; exact Int32.le_refl _) q⟩
      exact spots 32768 0 s (by omega) c hJ (fun p hp => by omega)
    | succ z ih =>
      intro k s hz c hJ
      obtain ⟨b1, b2, b3, b4⟩ := base s c
      have hk : k < 4 * n := by omega
      obtain ⟨f1, f2⟩ := b4.2 k hk
      have hlk := jm_len f k
      refine vcX12_nets_45 (b1.lay hL) _ _ ⟨fun q => ?_, fun _ => ?_⟩
      · rw [b3, lit32 4, pk_mul, zLE (by omega) (by omega)] at q
        omega
      rw [zIN (by omega) (by omega), zCL (by omega), f2, zLE (by omega) (by omega), hJ.1, zIN (by omega) (by omega), zCL (by omega)]
      refine ⟨by omega, fun q => ⟨by omega, fun s13 e13 s15 e15 x17 e17 => ?_⟩, fun q x19 e19 => ?_⟩
      · rw [inc e17]
        have h67 : mi s13 179 67 = nI (jm f k).length := by rw [e13, mi_si, if_neg (by omega)]; exact hJ.1
        rw [h67, inc rfl] at e15
        have c15 : Ch (fun a i => a = 179 ∧ i = 67 ∨ a = 220) noL s s15 := by rw [e15, e13]; exact (Ch.rf.si (by omega)).si (by omega)
        refine ih (k + 1) s15 (by omega) (c.trans (c15.mono (fun a k h => by omega) (fun _ _ h => h))) ?_
        rw [jm_s, show jmP f k = true from decide_eq_true q, if_pos rfl]
        refine ⟨by rw [e15, mi_si, if_pos ⟨rfl, rfl⟩, List.length_append]; rfl, fun i q' hq => ?_⟩
        by_cases hi : i < (jm f k).length
        · rw [List.getElem?_append_left hi] at hq
          rw [e15, mi_si, if_neg (by omega), e13, mi_si, if_neg (by omega)]
          exact hJ.2 i q' hq
        · rw [List.getElem?_append_right (by omega)] at hq
          have hi0 : i = (jm f k).length := by
            have := (List.getElem?_eq_some_iff.mp hq).1
            rw [List.length_singleton] at this
            omega
          rw [hi0, Nat.sub_self] at hq
          have hqk : k = q' := Option.some.inj hq
          rw [hi0, e15, mi_si, if_neg (by omega), e13, mi_si, if_pos ⟨rfl, rfl⟩, hqk]
      · rw [inc e19]
        refine ih (k + 1) s (by omega) c ?_
        rw [jm_s, show jmP f k = false from decide_eq_false q]
        simpa using hJ
  have c9 : Ch (fun a i => a = 179 ∧ (i = 67 ∨ 73 ≤ i ∧ i ≤ 75) ∨ a = 220 ∨ a = 226 ∨ a = 224) noL s7 s9 := by rw [e9]; exact Ch.rf.si (by omega)
  exact joints (4 * n) 0 s9 (by omega) c9 ⟨by rw [e9, mi_si, if_pos ⟨rfl, rfl⟩]; rfl, fun i q h => by simp [jm] at h⟩
