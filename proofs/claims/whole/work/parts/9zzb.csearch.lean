/-! ===== the class goes through all trees ===== -/
abbrev chSe (c : Nat) : Nat → Nat → Prop := fun a i => a = 149 ∧ (2 ≤ i ∧ i ≤ 4 ∨ i = 14) ∨ a = 152 ∨ 162 ≤ a ∧ a ≤ 165 ∨ 154 + c < a ∧ a ≤ 161
/-- what is counted so far -/
def StC (s : PS) (n : Nat) (st : StU) : Prop := mi s 149 2 = nI st.1 ∧ mi s 149 3 = nI st.2.1 ∧ TbC s n st.2.2
theorem TbC.ch {s s' : PS} {n : Nat} {S : List Nat} {Pm Pl : Nat → Nat → Prop} (h : TbC s n S) (c : Ch Pm Pl s s') (h1 : ¬ Pm 149 4) (h2 : ∀ i, ¬ Pl 166 i) : TbC s' n S := by
  obtain ⟨t1, t2, tab, t3, t4⟩ := h
  exact ⟨by rw [c.i h1]; exact t1, t2, tab, fun p hp => by rw [c.l (h2 p)]; exact t3 p hp, t4⟩
theorem BD.ch' {s s' : PS} {n : Nat} {f : Nat → Nat} {Pm Pl : Nat → Nat → Prop} (h : BD s 129 n f) (c : Ch Pm Pl s s') (h1 : ∀ a i, 129 ≤ a → a ≤ 131 → ¬ Pm a i) : BD s' 129 n f := by
  obtain ⟨b1, b2, b3⟩ := h
  exact ⟨by rw [c.i (h1 _ _ (by omega) (by omega))]; exact b1, b2, fun q hq => ⟨(b3 q hq).1, by rw [c.i (h1 _ _ (by omega) (by omega))]; exact (b3 q hq).2.1, by rw [c.i (h1 _ _ (by omega) (by omega))]; exact (b3 q hq).2.2⟩⟩
theorem PrL.ch {s s' : PS} {f : Nat → Nat} {J : List Nat} {Pm Pl : Nat → Nat → Prop} (h : PrL s f J) (c : Ch Pm Pl s s') (h1 : ¬ Pm 149 7) (h2 : ∀ a i, a = 150 ∨ a = 151 → ¬ Pm a i) : PrL s' f J := ⟨by rw [c.i h1]; exact h.1, fun i q hq => by rw [c.i (h2 _ _ (Or.inl rfl)), c.i (h2 _ _ (Or.inr rfl))]; exact h.2 i q hq⟩
theorem drop_cons' {J : List Nat} {p : Nat} (h : p < J.length) : ∃ q, J[p]? = some q ∧ J.drop p = q :: J.drop (p + 1) := ⟨J[p], List.getElem?_eq_getElem h, List.drop_eq_getElem_cons h⟩
theorem se_leaf {g : GV} {d n : Nat} {f : Nat → Nat} {js l : List Nat} {st : StU} {σ s51 : PS} {Q : PS → Prop} (hn0 : 0 < n) (hn8 : n ≤ 8) (hf : ∀ q, q < 4 * n → f q < 4 * n) (hff : ∀ q, q < 4 * n → f (f q) = q) (hL : Lay σ) (hB : BD σ 129 n f) (hJF : JF σ f n l) (hA : Acy f n l) (hSt : StC σ n st) (hl : l.length + 1 = n) (e51 : s51 = si σ 149 2 ((mi σ 149 2) + 1))
    (h : ∀ s, StC s n (srch f n js l st) → JF s f n l → Ch (chSe l.length) chKe σ s → Q s) :
    CX9_layFlat g (d + 1) [.ref 149] s51 (fun (s53 : PS) => Fr s51 s53 ∧ CX9_keepIfGood g (d + 1) [.ref 149] s53 (fun (s55 : PS) => Fr s53 s55 ∧ Q s55)) := by
  obtain ⟨p1, p2, p3⟩ := plc_is hA
  have hG : Grn (plc f n l) n := gro_ex hf hff hA hl p2 p3
  have c51 : Ch (fun a i => a = 149 ∧ i = 2) noL σ s51 := by rw [e51]; exact Ch.rf.si ⟨rfl, rfl⟩
  have h2 : mi s51 149 2 = nI (st.1 + 1) := by rw [e51, mi_si, if_pos ⟨rfl, rfl⟩, hSt.1, inc rfl]
  have hB51 := hB.ch' c51 (fun a i h1 h2 => by omega)
  refine Ct.imp (sp_layFlat (d := d) (c51.lay hL) hn8 hf hff hA hl p1 p2 p3 hB51 (fun q hq => by rw [c51.i (by omega)]; exact hJF q hq)) (fun r s53 w => ?_)
  obtain ⟨rfl, k1, c53⟩ := w
  have hL53 := c53.lay (c51.lay hL)
  refine ⟨rfl, c53.fr, Ct.imp (sp_keepIfGood (d := d) (S := st.2.2) (gd := st.2.1) hL53 (hB51.ch' c53 (fun a i h1 h2 => by omega)).1 hG hn8 p1 k1 ((hSt.2.2.ch c51 (by omega) (fun i => id)).ch c53 (by omega) (fun i => id)) (by rw [c53.i (by omega), c51.i (by omega)]; exact hSt.2.1)) (fun r s55 w => ?_)⟩
  obtain ⟨rfl, m1, m2, c55⟩ := w
  have cc : Ch (chSe l.length) chKe σ s55 := ((c51.mono (fun a k h => by omega) (fun _ _ h => h.elim)).trans (c53.mono (fun a k h => by omega) (fun _ _ h => h.elim))).trans (c55.mono (fun a k h => by omega) (fun _ _ h => h))
  refine ⟨rfl, c55.fr, h s55 ?_ (fun q hq => by rw [c55.i (by omega), c53.i (by omega), c51.i (by omega)]; exact hJF q hq) cc⟩
  rw [srch_end hl]
  have h25 : mi s55 149 2 = nI (st.1 + 1) := by rw [c55.i (by omega), c53.i (by omega)]; exact h2
  by_cases hF : Flt (plc f n l) n
  · rw [actU_y hF]
    exact ⟨h25, (m1 hF).1, (m1 hF).2⟩
  · rw [actU_n hF]
    exact ⟨h25, (m2 hF).1, (m2 hF).2⟩
theorem sp_search9 {g : GV} {d n : Nat} {f : Nat → Nat} {J : List Nat} (hn0 : 0 < n) (hn8 : n ≤ 8) (hf : ∀ q, q < 4 * n → f q < 4 * n) (hff : ∀ q, q < 4 * n → f (f q) = q) (hJ16 : J.length ≤ 16) (hJ : ∀ (i q : Nat), J[i]? = some q → q < 4 * n ∧ q / 4 < f q / 4) : ∀ (z p : Nat) (l : List Nat) (st : StU) (σ : PS), p + z = J.length → Lay σ → BD σ 129 n f → PrL σ f J → JF σ f n l → Acy f n l → l.length + 1 ≤ n → (∀ i, i < n → mi σ (154 + l.length) i = nI (lbs f l i)) → StC σ n st →
    CX9_search g (d + z + 2) [.ref 149, .int (nI p), .int (nI l.length)] σ (fun s => StC s n (srch f n (J.drop p) l st) ∧ JF s f n l ∧ Ch (chSe l.length) chKe σ s) := by
  intro z
  induction z with
  | zero =>
    intro p l st σ hz hL hB hPr hJF hA hl hrow hSt
    generalize hQ : (fun (s : PS) => StC s n (srch f n (J.drop p) l st) ∧ JF s f n l ∧ Ch (chSe l.length) chKe σ s) = Q
    obtain ⟨b1, b2, b3⟩ := id hB
    have hd : J.drop p = [] := List.drop_eq_nil_of_le (by omega)
    refine vcX9_search hL _ _ ⟨fun q => ⟨fun w => ?_, fun _ => ?_⟩, fun q s51 e51 => ?_⟩
    · rw [b1, lit32 1, pk_sub (by omega), hPr.1, pk_sub (by omega), zEQ (by omega) (by omega)] at *
      rw [pk_sub (by omega), zLE (by omega) (by omega)] at w
      omega
    · rw [b1, lit32 1, pk_sub (by omega), zEQ (by omega) (by omega)] at q
      rw [← hQ, hd, srch_nil (by omega)]
      exact ⟨hSt, hJF, Ch.rf⟩
    · exact se_leaf hn0 hn8 hf hff hL hB hJF hA hSt (by rw [b1, lit32 1, pk_sub (by omega), zEQ (by omega) (by omega)] at q; omega) e51 (fun s h1 h2 h3 => by rw [← hQ]; exact ⟨h1, h2, h3⟩)
  | succ z ih =>
    intro p l st σ hz hL hB hPr hJF hA hl hrow hSt
    generalize hQ : (fun (s : PS) => StC s n (srch f n (J.drop p) l st) ∧ JF s f n l ∧ Ch (chSe l.length) chKe σ s) = Q
    obtain ⟨b1, b2, b3⟩ := id hB
    obtain ⟨q, hq, hd⟩ := drop_cons' (J := J) (p := p) (by omega)
    obtain ⟨hqn, hq4⟩ := hJ p q hq
    have hfq := hf q hqn
    have hfe := hff q hqn
    obtain ⟨w1, w2⟩ := hPr.2 p q hq
    refine vcX9_search hL _ _ ⟨fun hne => ⟨fun hle => ?_, fun hgt => ?_⟩, fun q s51 e51 => ?_⟩
    · rw [b1, lit32 1, pk_sub (by omega), zEQ (by omega) (by omega)] at hne
      have hlt : l.length + 1 < n := by omega
      obtain ⟨r1, r2⟩ := mr153 hL (show l.length < 8 by omega)
      have u1 := hrow (q / 4) (by omega)
      have u2 := hrow (f q / 4) (by omega)
      have v1 := (lbs_le f l (q / 4)).1
      have v2 := (lbs_le f l (f q / 4)).1
      have vp : vp_in (nI p) 16 := by rw [zIN (by omega) (by omega)]; omega
      have vl : vp_in (nI l.length) 8 := by rw [zIN (by omega) (by omega)]; omega
      have vq : vp_in (nI (q / 4)) 8 := by rw [zIN (by omega) (by omega)]; omega
      have vf : vp_in (nI (f q / 4)) 8 := by rw [zIN (by omega) (by omega)]; omega
      have vq2 : vp_in (nI q) 32 := by rw [zIN (by omega) (by omega)]; omega
      have vf2 : vp_in (nI (f q)) 32 := by rw [zIN (by omega) (by omega)]; omega
      rw [zCL (by omega), zCL (by omega), lit32 1, nI_add, nI_add]
      refine ⟨vp, fun x2 e2 => ⟨vp, fun x5 e5 => ⟨vl, 154 + l.length, r1, 8, r2, ?_⟩⟩⟩
      rw [w1] at e2
      rw [w2] at e5
      subst e2 e5
      rw [lit32 4, zDIV (by omega) (by omega) (by omega), zDIV (by omega) (by omega) (by omega), zCL (by omega), zCL (by omega), zCL (by omega), zCL (by omega), u1]
      refine ⟨vq, vl, 154 + l.length, r1, 8, r2, vf, ?_⟩
      rw [u2, zEQ (by omega) (by omega)]
      refine ⟨fun he => ?_, fun he => ⟨vl, 154 + l.length, r1, 8, r2, vq, vl, 154 + l.length, r1, 8, r2, vf, ?_⟩⟩
      · refine Ct.imp (ih (p + 1) l st σ (by omega) hL hB hPr hJF hA hl hrow hSt) (fun r s w => ?_)
        obtain ⟨rfl, k1, k2, k3⟩ := w
        refine ⟨rfl, k3.fr, ?_⟩
        rw [← hQ, hd, srch_cons (by omega), if_pos he]
        exact ⟨k1, k2, k3⟩
      · rw [u1, u2]
        refine Ct.imp (sp_joinGroups hL b1 hn8 (by omega) (fun i hi => ⟨hrow i hi, by have := (lbs_le f l i).1; omega⟩) (by omega) (by omega)) (fun r s33 w => ?_)
        obtain ⟨rfl, k1, c33⟩ := w
        refine ⟨rfl, c33.fr, vq2, fun s36 e36 => ⟨vf2, fun s39 e39 => ?_⟩⟩
        have c39' : Ch (fun a _ => a = 152) noL s33 s39 := by rw [e39, e36]; exact ((Ch.rf : Ch (fun a _ => a = 152) noL s33 s33).si rfl).si rfl
        have c39 : Ch (chSe l.length) chKe σ s39 := (c33.mono (fun a k h => by omega) (fun _ _ h => h.elim)).trans (c39'.mono (fun a k h => by omega) (fun _ _ h => h.elim))
        have hjq : jb f l q = false := by
          cases w : jb f l q with
          | false => rfl
          | true =>
            exfalso
            rcases jb_is.mp w with w | w
            · exact he (lbs_in (f := f) w)
            · have := lbs_in (f := f) w
              rw [hfe] at this
              exact he this.symm
        have hjfq : jb f l (f q) = false := by
          have : jb f l (f q) = jb f l q := by unfold jb; rw [hfe, Bool.or_comm]
          rw [this]; exact hjq
        have hJ39 : JF s39 f n (q :: l) := by
          intro r hr
          have hjb : jb f (q :: l) r = (jb f l r || r == q || r == f q) := by
            apply Bool.eq_iff_iff.mpr
            rw [jb_is, Bool.or_eq_true, Bool.or_eq_true, jb_is, beq_iff_eq, beq_iff_eq, List.mem_cons, List.mem_cons]
            constructor
            · rintro ((h | h) | (h | h))
              · exact Or.inl (Or.inr h)
              · exact Or.inl (Or.inl (Or.inl h))
              · right; rw [← h, hff r hr]
              · exact Or.inl (Or.inl (Or.inr h))
            · rintro (((h | h) | h) | h)
              · exact Or.inl (Or.inr h)
              · exact Or.inr (Or.inr h)
              · exact Or.inl (Or.inl h)
              · right; left; rw [h, hfe]
          rw [hjb, e39, mi_si, e36, mi_si]
          by_cases h1 : r = f q
          · rw [if_pos ⟨rfl, h1⟩, if_pos (by rw [beq_iff_eq.mpr h1, Bool.or_true])]; rfl
          · rw [if_neg (fun w => h1 w.2)]
            by_cases h2 : r = q
            · rw [if_pos ⟨rfl, h2⟩, if_pos (by rw [beq_iff_eq.mpr h2, Bool.or_true, Bool.true_or])]; rfl
            · rw [if_neg (fun w => h2 w.2), c33.i (by omega), hJF r hr, beq_eq_false_iff_ne.mpr h1, beq_eq_false_iff_ne.mpr h2, Bool.or_false, Bool.or_false]
        have hA2 : Acy f n (q :: l) := ⟨hA, hqn, he⟩
        have hSt39 : StC s39 n st := ⟨by rw [c39'.i (by omega), c33.i (by omega)]; exact hSt.1, by rw [c39'.i (by omega), c33.i (by omega)]; exact hSt.2.1, (hSt.2.2.ch c33 (by omega) (fun i => id)).ch c39' (by omega) (fun i => id)⟩
        have hrec := ih (p + 1) (q :: l) st s39 (by omega) (c39.lay hL) (hB.ch' c39 (fun a i h1 h2 => by omega)) (hPr.ch c39 (by omega) (fun a i h => by omega)) hJ39 hA2 (by rw [List.length_cons]; omega) (fun i hi => by
          rw [List.length_cons, c39'.i (by omega), k1 i hi]
          rfl) hSt39
        rw [List.length_cons] at hrec
        refine Ct.imp hrec (fun r s41 w => ?_)
        obtain ⟨rfl, m1, m2, m3⟩ := w
        refine ⟨rfl, m3.fr, vq2, fun s44 e44 => ⟨vf2, fun s47 e47 => ?_⟩⟩
        have c47' : Ch (fun a _ => a = 152) noL s41 s47 := by rw [e47, e44]; exact ((Ch.rf : Ch (fun a _ => a = 152) noL s41 s41).si rfl).si rfl
        have c47 : Ch (chSe l.length) chKe σ s47 := (c39.trans (m3.mono (fun a k h => by omega) (fun _ _ h => h))).trans (c47'.mono (fun a k h => by omega) (fun _ _ h => h.elim))
        have hJ47 : JF s47 f n l := by
          intro r hr
          rw [e47, mi_si, e44, mi_si]
          by_cases h1 : r = f q
          · rw [if_pos ⟨rfl, h1⟩, h1, hjfq]; rfl
          · rw [if_neg (fun w => h1 w.2)]
            by_cases h2 : r = q
            · rw [if_pos ⟨rfl, h2⟩, h2, hjq]; rfl
            · rw [if_neg (fun w => h2 w.2), m2 r hr]
              have hjb : jb f (q :: l) r = jb f l r := by
                apply Bool.eq_iff_iff.mpr
                rw [jb_is, jb_is, List.mem_cons, List.mem_cons]
                constructor
                · rintro ((h | h) | (h | h))
                  · exact absurd h h2
                  · exact Or.inl h
                  · exact absurd (by rw [← h, hff r hr]) h1
                  · exact Or.inr h
                · rintro (h | h)
                  · exact Or.inl (Or.inr h)
                  · exact Or.inr (Or.inr h)
              rw [hjb]
        have hSt47 : StC s47 n (srch f n (J.drop (p + 1)) (q :: l) st) := ⟨by rw [c47'.i (by omega)]; exact m1.1, by rw [c47'.i (by omega)]; exact m1.2.1, m1.2.2.ch c47' (by omega) (fun i => id)⟩
        refine Ct.imp (ih (p + 1) l _ s47 (by omega) (c47.lay hL) (hB.ch' c47 (fun a i h1 h2 => by omega)) (hPr.ch c47 (by omega) (fun a i h => by omega)) hJ47 hA hl (fun i hi => by rw [c47.i (by omega)]; exact hrow i hi) hSt47) (fun r s49 w => ?_)
        obtain ⟨rfl, y1, y2, y3⟩ := w
        refine ⟨rfl, y3.fr, ?_⟩
        rw [← hQ, hd, srch_cons (by omega), if_neg he]
        exact ⟨y1, y2, c47.trans y3⟩
    · rw [b1, lit32 1, pk_sub (by omega), zEQ (by omega) (by omega)] at hne
      rw [b1, lit32 1, pk_sub (by omega), pk_sub (by omega), hPr.1, pk_sub (by omega), zLE (by omega) (by omega)] at hgt
      rw [← hQ, srch_few _ _ _ (by rw [List.length_drop]; omega)]
      exact ⟨hSt, hJF, Ch.rf⟩
    · exact se_leaf hn0 hn8 hf hff hL hB hJF hA hSt (by rw [b1, lit32 1, pk_sub (by omega), zEQ (by omega) (by omega)] at q; omega) e51 (fun s h1 h2 h3 => by rw [← hQ]; exact ⟨h1, h2, h3⟩)
