/-! ===== the reference goes through all trees ===== -/
def StM (s : PS) (n : Nat) (st : StU) : Prop := mi s 179 73 = nI st.1 ∧ mi s 179 74 = nI st.2.1 ∧ TbM s n st.2.2
theorem StM.ch {s s' : PS} {n : Nat} {st : StU} {Pm Pl : Nat → Nat → Prop} (h : StM s n st) (c : Ch Pm Pl s s') (h1 : ∀ i, 73 ≤ i → i ≤ 75 → ¬ Pm 179 i) (h2 : ∀ i, ¬ Pm 226 i) (h3 : ∀ i, ¬ Pl 225 i) : StM s' n st := ⟨by rw [c.i (h1 _ (by omega) (by omega))]; exact h.1, by rw [c.i (h1 _ (by omega) (by omega))]; exact h.2.1, h.2.2.ch c (h1 _ (by omega) (by omega)) h2 h3⟩
abbrev chPi (c : Nat) : Nat → Nat → Prop := fun a i => a = 179 ∧ 73 ≤ i ∧ i ≤ 75 ∨ 221 ≤ a ∧ a ≤ 224 ∨ a = 226 ∨ a = 227 ∧ c ≤ i ∨ a = 228
theorem JoM.ch {s s' : PS} {J : List Nat} {Pm Pl : Nat → Nat → Prop} (h : JoM s J) (c : Ch Pm Pl s s') (h1 : ¬ Pm 179 67) (h2 : ∀ i, ¬ Pm 220 i) : JoM s' J := ⟨by rw [c.i h1]; exact h.1, fun i q hq => by rw [c.i (h2 i)]; exact h.2 i q hq⟩
theorem BY.ch' {s s' : PS} {n : Nat} {f : Nat → Nat} {Pm Pl : Nat → Nat → Prop} (h : BY s n f) (c : Ch Pm Pl s s') (h1 : ∀ i, ¬ Pm 215 i) : BY s' n f := ⟨h.1, fun q hq => ⟨(h.2 q hq).1, by rw [c.i (h1 q)]; exact (h.2 q hq).2⟩⟩
theorem ChM.ch {s s' : PS} {J l : List Nat} {Pm Pl : Nat → Nat → Prop} (h : ChM s J l) (c : Ch Pm Pl s s') (h1 : ∀ i, i < l.length → ¬ Pm 227 i) : ChM s' J l := fun i q hq => by
  obtain ⟨k, k1, k2⟩ := h i q hq
  have hi := (List.getElem?_eq_some_iff.mp hq).1
  rw [List.length_reverse] at hi
  exact ⟨k, by rw [c.i (h1 i hi)]; exact k1, k2⟩
/-- the reference's groups, as they stand -/
def GrM (s : PS) (f : Nat → Nat) (n : Nat) (l : List Nat) : Prop := ∃ p r k, Uf n p r k ∧ UfL f n l r ∧ ∀ i, i < n → mi s 224 i = nI (p i)
theorem sp_picks {g : GV} {d n : Nat} {f : Nat → Nat} {J : List Nat} (hn0 : 0 < n) (hn8 : n ≤ 8) (hf : ∀ q, q < 4 * n → f q < 4 * n) (hff : ∀ q, q < 4 * n → f (f q) = q) (hJ40 : J.length ≤ 40) (hJ : ∀ q, q ∈ J → q < 4 * n) : ∀ (w : Nat) (l : List Nat), l.length + 1 + w = n → ∀ (k : Nat) (st : StU) (σ : PS), k ≤ J.length → Lay σ → mi σ 179 35 = nI n → BY σ n f → JoM σ J → ChM σ J l → Acy f n l → GrM σ f n l → StM σ n st →
    CX12_picks g (d + w + 2) [.ref 179, .int (nI k), .int (nI l.length)] σ (fun s => StM s n (srch f n (J.drop k) l st) ∧ (∀ i, mi s 224 i = mi σ 224 i) ∧ Ch (chPi l.length) chCl σ s) := by
  intro w
  induction w with
  | zero =>
    intro l hl k st σ hk hL h35 hBY hJo hCh hA hGr hSt
    generalize hQ : (fun (s : PS) => StM s n (srch f n (J.drop k) l st) ∧ (∀ i, mi s 224 i = mi σ 224 i) ∧ Ch (chPi l.length) chCl σ s) = Q
    obtain ⟨p1, p2, p3⟩ := plc_is hA
    have hG : Grn (plc f n l) n := gro_ex hf hff hA (by omega) p2 p3
    refine vcX12_picks hL _ _ ⟨fun q => absurd (by rw [h35, lit32 1, pk_sub (by omega)]; congr 1; omega) q, fun _ s1 e1 => ?_⟩
    have c1 : Ch (fun a i => a = 179 ∧ i = 73) noL σ s1 := by rw [e1]; exact Ch.rf.si ⟨rfl, rfl⟩
    have hL1 := c1.lay hL
    have h73 : mi s1 179 73 = nI (st.1 + 1) := by rw [e1, mi_si, if_pos ⟨rfl, rfl⟩, hSt.1, inc rfl]
    refine Ct.imp (sp_isFlat (d := d) hL1 hn8 hf hff hA (by omega) hJ40 p1 p2 p3 (by rw [c1.i (by omega)]; exact h35) (hBY.ch' c1 (fun i => by omega)) (hJo.ch c1 (by omega) (fun i => by omega)) (hCh.ch c1 (fun i _ => by omega))) (fun r s3 z => ?_)
    obtain ⟨v, rfl, hv, hLy, c3⟩ := z
    have hL3 := c3.lay hL1
    have cc : Ch (chPi l.length) chCl σ s3 := (c1.mono (fun a k h => by omega) (fun _ _ h => h.elim)).trans (c3.mono (fun a k h => by omega) (fun _ _ h => h.elim))
    refine ⟨_, rfl, c3.fr, fun hv0 s5 e5 => ?_, fun hv0 => ?_⟩
    · have hF : Flt (plc f n l) n := by
        rcases hv with ⟨h, -⟩ | ⟨-, h⟩
        · exact h
        · exact absurd h hv0
      have h74 : mi s3 179 74 = nI st.2.1 := by rw [c3.i (by omega), c1.i (by omega)]; exact hSt.2.1
      rw [h74, inc rfl] at e5
      have c5 : Ch (fun a i => a = 179 ∧ i = 74) noL s3 s5 := by rw [e5]; exact Ch.rf.si ⟨rfl, rfl⟩
      refine Ct.imp (sp_countsNet (d := d) (S := st.2.2) (c5.lay hL3) hG hn8 p1 hF (by rw [c5.i (by omega), c3.i (by omega), c1.i (by omega)]; exact h35) (fun c hc => by rw [c5.i (by omega), c5.i (by omega)]; exact hLy c hc) (((hSt.2.2.ch c1 (by omega) (fun i => by omega) (fun i => id)).ch c3 (by omega) (fun i => by omega) (fun i => id)).ch c5 (by omega) (fun i => by omega) (fun i => id))) (fun r s7 z => ?_)
      obtain ⟨rfl, t1, c7⟩ := z
      refine ⟨rfl, c7.fr, ?_⟩
      rw [← hQ, srch_end (by omega), actU_y hF]
      refine ⟨⟨?_, ?_, t1⟩, fun i => by rw [c7.i (by omega), c5.i (by omega), c3.i (by omega), c1.i (by omega)], (cc.trans (c5.mono (fun a k h => by omega) (fun _ _ h => h.elim))).trans (c7.mono (fun a k h => by omega) (fun _ _ h => h))⟩
      · rw [c7.i (by omega), c5.i (by omega), c3.i (by omega)]; exact h73
      · rw [c7.i (by omega), e5, mi_si, if_pos ⟨rfl, rfl⟩]
    · have hF : ¬ Flt (plc f n l) n := by
        rcases hv with ⟨-, h⟩ | ⟨h, -⟩
        · rw [h] at hv0; exact absurd hv0 (by decide)
        · exact h
      rw [← hQ, srch_end (by omega), actU_n hF]
      refine ⟨⟨?_, ?_, ?_⟩, fun i => by rw [c3.i (by omega), c1.i (by omega)], cc⟩
      · rw [c3.i (by omega)]; exact h73
      · rw [c3.i (by omega), c1.i (by omega)]; exact hSt.2.1
      · exact (hSt.2.2.ch c1 (by omega) (fun i => by omega) (fun i => id)).ch c3 (by omega) (fun i => by omega) (fun i => id)
  | succ w ih =>
    intro l hl k st σ hk hL h35 hBY hJo hCh hA hGr hSt
    generalize hQ : (fun (s : PS) => StM s n (srch f n (J.drop k) l st) ∧ (∀ i, mi s 224 i = mi σ 224 i) ∧ Ch (chPi l.length) chCl σ s) = Q
    have loop : ∀ (z k' : Nat) (st' : StU) (s : PS), k' + z = J.length → srch f n (J.drop k) l st = srch f n (J.drop k') l st' → StM s n st' → (∀ i, mi s 224 i = mi σ 224 i) → Ch (chPi l.length) chCl σ s → VX12_picks g (d + (w + 1) + 1 + 1) Q 46 [some (.ref 179), none, some (.int (nI l.length)), some (.int (nI k')), none, none] [] s := by
      intro z
      induction z with
      | zero =>
        intro k' st' s hz hsr hs h224 c
        refine vcX12_picks_46 (c.lay hL) _ _ ⟨fun _ => ?_, fun q => absurd (by rw [c.i (by omega), hJo.1, zLE (by omega) (by omega)]; omega) q⟩
        rw [← hQ, hsr, List.drop_eq_nil_of_le (show J.length ≤ k' by omega), srch_nil (by omega)]
        exact ⟨hs, h224, c⟩
      | succ z ihz =>
        intro k' st' s hz hsr hs h224 c
        obtain ⟨q, hq, hd⟩ := drop_cons' (J := J) (p := k') (by omega)
        have hqn := hJ q (List.mem_of_getElem? hq)
        have hLs := c.lay hL
        have hJos := hJo.ch c (by omega) (fun i => by omega)
        have hBYs := hBY.ch' c (fun i => by omega)
        have h220 := hJos.2 k' q hq
        obtain ⟨f1, f2⟩ := hBYs.2 q hqn
        obtain ⟨p, r, kk, u1, u2, u3⟩ := hGr
        have u3s : ∀ i, i < n → mi s 224 i = nI (p i) := fun i hi => by rw [h224]; exact u3 i hi
        have r1 := u1 (q / 4) (by omega)
        have r2 := u1 (f q / 4) (by omega)
        refine vcX12_picks_46 hLs _ _ ⟨fun w => ?_, fun _ => ?_⟩
        · rw [hJos.1, zLE (by omega) (by omega)] at w
          omega
        have vk : vp_in (nI k') 40 := by rw [zIN (by omega) (by omega)]; omega
        rw [zCL (by omega), h220, lit32 4, zDIV (by omega) (by omega) (by omega)]
        refine ⟨vk, Ct.imp (sp_groupOf (n := n) hLs hn8 u1 u3s (show q / 4 < n by omega)) (fun rr s10 y => ?_)⟩
        obtain ⟨v, rfl, rfl, rfl⟩ := y
        have vq : vp_in (nI q) 80 := by rw [zIN (by omega) (by omega)]; omega
        refine ⟨_, rfl, Fr.rf, vk, ?_⟩
        rw [h220, zCL (by omega), f2, zDIV (by omega) (by omega) (by omega)]
        refine ⟨vq, Ct.imp (sp_groupOf (n := n) hLs hn8 u1 u3s (show f q / 4 < n by omega)) (fun rr s14 y => ?_)⟩
        obtain ⟨v, rfl, rfl, rfl⟩ := y
        have hsame := u2 (q / 4) (f q / 4) (by omega) (by omega)
        refine ⟨_, rfl, Fr.rf, ?_⟩
        rw [zEQ (by omega) (by omega)]
        refine ⟨fun hne => ?_, fun he x29 e29 => ?_⟩
        · have hne' : ¬ lbs f l (q / 4) = lbs f l (f q / 4) := fun w => hne (hsame.mpr w)
          have vr : vp_in (nI (r (q / 4))) 10 := by rw [zIN (by omega) (by omega)]; omega
          have vl : vp_in (nI l.length) 10 := by rw [zIN (by omega) (by omega)]; omega
          rw [zCL (by omega), zCL (by omega), lit32 1, nI_add, nI_add]
          refine ⟨vr, fun s17 e17 => ⟨vl, fun s20 e20 => ?_⟩⟩
          have c20' : Ch (fun a i => a = 224 ∨ a = 227 ∧ i = l.length) noL s14 s20 := by rw [e20, e17]; exact (Ch.rf.si (by omega)).si (by omega)
          have c20 : Ch (chPi l.length) chCl σ s20 := c.trans (c20'.mono (fun a k h => by omega) (fun _ _ h => h.elim))
          have hCh20 : ChM s20 J (q :: l) := by
            intro i q' hq'
            rw [List.reverse_cons] at hq'
            by_cases hi : i < l.reverse.length
            · rw [List.getElem?_append_left hi] at hq'
              obtain ⟨k2, k3, k4⟩ := hCh i q' hq'
              rw [List.length_reverse] at hi
              exact ⟨k2, by rw [c20'.i (by omega), c.i (by omega)]; exact k3, k4⟩
            · rw [List.getElem?_append_right (by omega)] at hq'
              have hi0 : i = l.length := by
                have := (List.getElem?_eq_some_iff.mp hq').1
                rw [List.length_singleton] at this
                rw [List.length_reverse] at this hi
                omega
              rw [List.length_reverse, hi0, Nat.sub_self] at hq'
              have hqq : q = q' := Option.some.inj hq'
              exact ⟨k', by rw [hi0, e20, mi_si, if_pos ⟨rfl, rfl⟩], by rw [← hqq]; exact hq⟩
          have hGr20 : GrM s20 f n (q :: l) := by
            refine ⟨_, _, _, u1.join r2.2.1 r1.2.2.1 r2.2.2.1 hne, u2.join (by omega) (by omega), fun i hi => ?_⟩
            rw [e20, mi_si, if_neg (by omega), e17, mi_si]
            by_cases e : i = r (q / 4)
            · rw [if_pos ⟨rfl, e⟩, if_pos e]
            · rw [if_neg (fun w => e w.2), if_neg e]; exact u3s i hi
          have hA2 : Acy f n (q :: l) := ⟨hA, hqn, hne'⟩
          have hrec := ih (q :: l) (by rw [List.length_cons]; omega) (k' + 1) st' s20 (by omega) (c20.lay hL) (by rw [c20.i (by omega)]; exact h35) (hBY.ch' c20 (fun i => by omega)) (hJo.ch c20 (by omega) (fun i => by omega)) hCh20 hA2 hGr20 (hs.ch c20' (fun i h1 h2 => by omega) (fun i => by omega) (fun i => id))
          rw [List.length_cons] at hrec
          refine Ct.imp hrec (fun rr s22 y => ?_)
          obtain ⟨rfl, m1, m2, c22⟩ := y
          refine ⟨rfl, c22.fr, vr, fun s25 e25 x27 e27 => ?_⟩
          have c25' : Ch (fun a _ => a = 224) noL s22 s25 := by rw [e25]; exact (Ch.rf : Ch (fun a _ => a = 224) noL s22 s22).si rfl
          have c25 : Ch (chPi l.length) chCl σ s25 := (c20.trans (c22.mono (fun a k h => by omega) (fun _ _ h => h))).trans (c25'.mono (fun a k h => by omega) (fun _ _ h => h.elim))
          subst e27
          refine ihz (k' + 1) _ s25 (by omega) ?_ (m1.ch c25' (fun i h1 h2 => by omega) (fun i => by omega) (fun i => id)) (fun i => ?_) c25
          · rw [hsr, hd, srch_cons (by omega), if_neg hne']
          · rw [e25, mi_si]
            by_cases e : i = r (q / 4)
            · rw [if_pos ⟨rfl, e⟩, e, u3 _ r1.2.1, r1.2.2.1]
            · rw [if_neg (fun w => e w.2), m2, e20, mi_si, if_neg (by omega), e17, mi_si, if_neg (fun w => e w.2)]
              exact h224 i
        · rw [inc e29]
          refine ihz (k' + 1) st' s14 (by omega) ?_ hs h224 c
          rw [hsr, hd, srch_cons (by omega), if_pos (hsame.mp he)]
    refine vcX12_picks hL _ _ ⟨fun _ => ?_, fun q => ?_⟩
    · exact loop (J.length - k) k st σ (by omega) rfl hSt (fun _ => rfl) Ch.rf
    · rw [h35, lit32 1, pk_sub (by omega), zEQ (by omega) (by omega)] at q
      omega
