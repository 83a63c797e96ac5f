/-! ===== the least picture of what is laid flat is among those counted ===== -/
theorem mnU_is (v : Nat → Nat) : ∀ k, (∃ w, w ≤ k ∧ mnU v k = v w) ∧ ∀ w, w ≤ k → mnU v k ≤ v w := by
  intro k
  induction k with
  | zero => exact ⟨⟨0, Nat.le_refl _, rfl⟩, fun w hw => by rw [show w = 0 by omega]; exact Nat.le_refl _⟩
  | succ k ih =>
    have e : mnU v (k + 1) = mnU v k - (mnU v k - v (k + 1)) := rfl
    obtain ⟨⟨w0, a1, a2⟩, a3⟩ := ih
    refine ⟨?_, fun w hw => ?_⟩
    · rcases Nat.le_total (mnU v k) (v (k + 1)) with q | q
      · exact ⟨w0, by omega, by omega⟩
      · exact ⟨k + 1, Nat.le_refl _, by omega⟩
    · by_cases q : w = k + 1
      · subst q; omega
      · have := a3 w (by omega)
        omega
theorem mxL_is (h : Nat → Nat) : ∀ l : List Nat, (∀ b, b ∈ l → h b ≤ mxL h l) ∧ (mxL h l = 0 ∨ ∃ b, b ∈ l ∧ h b = mxL h l) := by
  intro l
  induction l with
  | nil => exact ⟨fun b hb => (nomatch hb), Or.inl rfl⟩
  | cons a l ih =>
    have e : mxL h (a :: l) = mxL h l + (h a - mxL h l) := rfl
    refine ⟨fun b hb => ?_, ?_⟩
    · rcases List.mem_cons.mp hb with q | q
      · subst q; omega
      · have := ih.1 b q
        omega
    · rcases Nat.le_total (mxL h l) (h a) with w | w
      · exact Or.inr ⟨a, List.mem_cons_self, by omega⟩
      · rcases ih.2 with z | ⟨b, k1, k2⟩
        · exact Or.inl (by omega)
        · exact Or.inr ⟨b, List.mem_cons_of_mem _ k1, by omega⟩
theorem picL_t (w W H e : Nat) : ∀ l : List Nat, (picL w W H l).testBit e = true ↔ ∃ b, b ∈ l ∧ e = cdW w W H (b % 8) (b / 8) := by
  intro l
  induction l with
  | nil => simp [picL]
  | cons a l ih =>
    show (picL w W H l ||| 2 ^ cdW w W H (a % 8) (a / 8)).testBit e = true ↔ _
    rw [Nat.testBit_or, Bool.or_eq_true, ih, Nat.testBit_two_pow, decide_eq_true_eq]
    constructor
    · rintro (⟨b, k1, k2⟩ | k)
      · exact ⟨b, List.mem_cons_of_mem _ k1, k2⟩
      · exact ⟨a, List.mem_cons_self, k.symm⟩
    · rintro ⟨b, k1, k2⟩
      rcases List.mem_cons.mp k1 with q | q
      · rw [q] at k2; exact Or.inr k2.symm
      · exact Or.inl ⟨b, q, k2⟩
theorem chq_all {k m : Nat} (hk : 1 ≤ k ∧ k ≤ 8) (h : inF k m = true) : inQ k (kyM m) = true := by
  have : k = 1 ∨ k = 2 ∨ k = 3 ∨ k = 4 ∨ k = 5 ∨ k = 6 ∨ k = 7 ∨ k = 8 := by omega
  rcases this with rfl | rfl | rfl | rfl | rfl | rfl | rfl | rfl
  · exact inB_al (p := fun m => inQ 1 (kyM m)) h chq1
  · exact inB_al (p := fun m => inQ 2 (kyM m)) h chq2
  · exact inB_al (p := fun m => inQ 3 (kyM m)) h chq3
  · exact inB_al (p := fun m => inQ 4 (kyM m)) h chq4
  · exact inB_al (p := fun m => inQ 5 (kyM m)) h chq5
  · exact inB_al (p := fun m => inQ 6 (kyM m)) h chq6
  · exact inB_al (p := fun m => inQ 7 (kyM m)) h chq7
  · exact inB_al (p := fun m => inQ 8 (kyM m)) h chq8
/-- laid flat: grown out of all its n cells -/
def Grn (P : Nat → PLc) (n : Nat) : Prop := ∃ o : List Nat, Gro P o ∧ o.Nodup ∧ o.length = n ∧ ∀ c, c ∈ o ↔ c < n
theorem Grn.pos {P : Nat → PLc} {n : Nat} (h : Grn P n) : 0 < n := by
  obtain ⟨o, h1, -, h3, -⟩ := h
  cases o with
  | nil => exact h1.elim
  | cons c l => rw [List.length_cons] at h3; omega
theorem Grn.le {P : Nat → PLc} {n : Nat} (h : Grn P n) {c d : Nat} (hc : c < n) (hd : d < n) : nX P n c + nY P n d + 1 ≤ n := by
  have h0 := h.pos
  obtain ⟨o, h1, -, h3, h4⟩ := h
  obtain ⟨x0, x1, y0, y1, r1, r2⟩ := gro_rng h1
  obtain ⟨⟨a, a1, a2⟩, a3⟩ := loI_is (fun i => (P i).1) n h0
  obtain ⟨⟨b, b1, b2⟩, b3⟩ := loI_is (fun i => (P i).2.1) n h0
  have k1 := r1 c ((h4 c).mpr hc)
  have k2 := r1 d ((h4 d).mpr hd)
  have k3 := r1 a ((h4 a).mpr a1)
  have k4 := r1 b ((h4 b).mpr b1)
  unfold nX nY
  omega
theorem Grn.wh {P : Nat → PLc} {n : Nat} (h : Grn P n) : mxN (nX P n) n + mxN (nY P n) n + 1 ≤ n := by
  have h0 := h.pos
  rcases (mxN_is (nX P n) n).2 with e1 | ⟨c, c1, c2⟩
  · rcases (mxN_is (nY P n) n).2 with e2 | ⟨d, d1, d2⟩
    · omega
    · have := h.le h0 d1
      omega
  · rcases (mxN_is (nY P n) n).2 with e2 | ⟨d, d1, d2⟩
    · have := h.le c1 h0
      omega
    · have := h.le c1 d1
      omega
theorem flp_le {b : Bool} {W a : Nat} (h : a ≤ W) : flp b W a ≤ W := by
  cases b
  · exact h
  · exact Nat.sub_le _ _
theorem flp_inj {b : Bool} {W a a' : Nat} (h : a ≤ W) (h' : a' ≤ W) (e : flp b W a = flp b W a') : a = a' := by
  cases b
  · exact e
  · unfold flp at e; simp only at e; omega
theorem cdE_lt {P : Nat → PLc} {n : Nat} (h : Grn P n) (h8 : n ≤ 8) (w : Nat) {c : Nat} (hc : c < n) : cdE P n w c < 57 := by
  have hw := h.wh
  have a := (mxN_is (nX P n) n).1 c hc
  have b := (mxN_is (nY P n) n).1 c hc
  unfold cdE cdW
  cases w.testBit 2
  · have e1 := flp_le (b := w.testBit 1) b
    have e2 := flp_le (b := w.testBit 0) a
    simp only
    omega
  · have e1 := flp_le (b := w.testBit 1) a
    have e2 := flp_le (b := w.testBit 0) b
    simp only
    omega
theorem cdE_inj {P : Nat → PLc} {n : Nat} (h : Grn P n) (h8 : n ≤ 8) (w : Nat) {c d : Nat} (hc : c < n) (hd : d < n) : cdE P n w c = cdE P n w d ↔ (P c).1 = (P d).1 ∧ (P c).2.1 = (P d).2.1 := by
  have h0 := h.pos
  have hw := h.wh
  have a := (mxN_is (nX P n) n).1 c hc
  have b := (mxN_is (nY P n) n).1 c hc
  have a' := (mxN_is (nX P n) n).1 d hd
  have b' := (mxN_is (nY P n) n).1 d hd
  have lx := (loI_is (fun i => (P i).1) n h0).2
  have ly := (loI_is (fun i => (P i).2.1) n h0).2
  have l1 := lx c hc
  have l2 := lx d hd
  have l3 := ly c hc
  have l4 := ly d hd
  have hxy : (nX P n c = nX P n d ∧ nY P n c = nY P n d) ↔ (P c).1 = (P d).1 ∧ (P c).2.1 = (P d).2.1 := by
    unfold nX nY
    constructor
    · rintro ⟨q1, q2⟩; omega
    · rintro ⟨q1, q2⟩; rw [q1, q2]; exact ⟨rfl, rfl⟩
  rw [← hxy]
  constructor
  · unfold cdE cdW
    cases w.testBit 2
    · have e1 := flp_le (b := w.testBit 1) b
      have e2 := flp_le (b := w.testBit 0) a
      have e1' := flp_le (b := w.testBit 1) b'
      have e2' := flp_le (b := w.testBit 0) a'
      simp only
      intro e
      exact ⟨flp_inj a a' (b := w.testBit 0) (by omega), flp_inj b b' (b := w.testBit 1) (by omega)⟩
    · have e1 := flp_le (b := w.testBit 1) a
      have e2 := flp_le (b := w.testBit 0) b
      have e1' := flp_le (b := w.testBit 1) a'
      have e2' := flp_le (b := w.testBit 0) b'
      simp only
      intro e
      exact ⟨flp_inj a a' (b := w.testBit 1) (by omega), flp_inj b b' (b := w.testBit 0) (by omega)⟩
  · rintro ⟨q1, q2⟩
    unfold cdE
    rw [q1, q2]
theorem msk_lt {h : Nat → Nat} {n : Nat} : ∀ k, k ≤ n → (∀ c, c < n → h c < 57) → msk h k < 2 ^ 57 := by
  intro k
  induction k with
  | zero => intro _ _; exact Nat.two_pow_pos 57
  | succ k ih =>
    intro hk hh
    rw [msk_s]
    exact Nat.or_lt_two_pow (ih (by omega) hh) (Nat.pow_lt_pow_right (by decide) (hh k (by omega)))
theorem msk_cnt {h : Nat → Nat} : ∀ n, (∀ c, c < n → h c < 64) → cnt (fun e => (msk h n).testBit e) 64 ≤ n ∧ (cnt (fun e => (msk h n).testBit e) 64 = n ↔ ∀ c d, c < n → d < n → h c = h d → c = d) := by
  intro n
  induction n with
  | zero =>
    intro _
    have : ∀ k, cnt (fun e => (msk h 0).testBit e) k = 0 := by
      intro k
      induction k with
      | zero => rfl
      | succ k ih => rw [cnt_s, ih]; simp [msk]
    rw [this]
    exact ⟨Nat.le_refl _, fun _ c d hc => by omega, fun _ => rfl⟩
  | succ n ih =>
    intro hh
    obtain ⟨i1, i2⟩ := ih (fun c hc => hh c (by omega))
    have e1 := cnt_put (gr := fun e => (msk h n).testBit e) (hh n (by omega))
    have e2 : cnt (fun e => (msk h (n + 1)).testBit e) 64 = cnt (fun e => (msk h n).testBit e || e == h n) 64 := cnt_congr (fun e _ => by
      rw [msk_s, Nat.testBit_or, Nat.testBit_two_pow]
      congr 1
      apply Bool.eq_iff_iff.mpr
      rw [decide_eq_true_eq, beq_iff_eq]
      exact eq_comm)
    rw [e2, e1]
    by_cases hb : (msk h n).testBit (h n) = true
    · rw [if_pos hb]
      refine ⟨by omega, fun q => by omega, fun q => ?_⟩
      obtain ⟨c, c1, c2⟩ := (msk_t h (h n) n).mp hb
      have := q n c (by omega) (by omega) c2
      omega
    · rw [if_neg hb]
      refine ⟨by omega, fun q c d hc hd e => ?_, fun q => ?_⟩
      · have hi := i2.mp (by omega)
        by_cases q1 : c = n
        · by_cases q2 : d = n
          · omega
          · exact absurd ((msk_t h (h n) n).mpr ⟨d, by omega, by rw [← e, q1]⟩) hb
        · by_cases q2 : d = n
          · exact absurd ((msk_t h (h n) n).mpr ⟨c, by omega, by rw [e, q2]⟩) hb
          · exact hi c d (by omega) (by omega) e
      · have := i2.mpr (fun c d hc hd e => q c d (by omega) (by omega) e)
        omega
theorem key_q {P : Nat → PLc} {n : Nat} (h : Grn P n) (h8 : n ≤ 8) (hF : Flt P n) : inQ n (keyP P n) = true := by
  have h0 := h.pos
  have hle : ∀ c d, c < n → d < n → nX P n c + nY P n d + 1 ≤ n := fun c d hc hd => h.le hc hd
  obtain ⟨o, h1, h2, h3, h4⟩ := h
  obtain ⟨m, ⟨ox, oy, m1, ⟨cx, m2, m3⟩, ⟨cy, m4, m5⟩, m6⟩, hm⟩ := gro_f h1 (fun c d hc hd => hF c d ((h4 c).mp hc) ((h4 d).mp hd)) h2 (by omega)
  rw [h3] at hm
  have hq := chq_all ⟨h0, h8⟩ hm
  have ex : ox = loI (fun i => (P i).1) n := by
    obtain ⟨⟨a, a1, a2⟩, a3⟩ := loI_is (fun i => (P i).1) n h0
    have b1 := (m1 a ((h4 a).mpr a1)).1
    have b2 := a3 cx ((h4 cx).mp m2)
    omega
  have ey : oy = loI (fun i => (P i).2.1) n := by
    obtain ⟨⟨a, a1, a2⟩, a3⟩ := loI_is (fun i => (P i).2.1) n h0
    have b1 := (m1 a ((h4 a).mpr a1)).2
    have b2 := a3 cy ((h4 cy).mp m4)
    omega
  have hb : ∀ e, e ∈ bitsM m ↔ ∃ c, c < n ∧ e = 8 * nY P n c + nX P n c := by
    intro e
    unfold bitsM
    rw [List.mem_filter, List.mem_range, m6, ex, ey]
    constructor
    · rintro ⟨-, c, c1, c2⟩
      exact ⟨c, (h4 c).mp c1, c2⟩
    · rintro ⟨c, c1, c2⟩
      have a := hle c c c1 c1
      exact ⟨by omega, c, (h4 c).mpr c1, c2⟩
  have dx : ∀ c, c < n → (8 * nY P n c + nX P n c) % 8 = nX P n c ∧ (8 * nY P n c + nX P n c) / 8 = nY P n c := fun c hc => by
    have a := hle c c hc hc
    omega
  have mx : ∀ (f : Nat → Nat) (k : Nat → Nat), (∀ c, c < n → f (8 * nY P n c + nX P n c) = k c) → mxL f (bitsM m) = mxN k n := by
    intro f k hfk
    obtain ⟨a1, a2⟩ := mxL_is f (bitsM m)
    obtain ⟨b1, b2⟩ := mxN_is k n
    refine Nat.le_antisymm ?_ ?_
    · rcases a2 with z | ⟨b, z1, z2⟩
      · omega
      · obtain ⟨c, c1, rfl⟩ := (hb b).mp z1
        rw [← z2, hfk c c1]
        exact b1 c c1
    · rcases b2 with z | ⟨c, z1, z2⟩
      · omega
      · rw [← z2, ← hfk c z1]
        exact a1 _ ((hb _).mpr ⟨c, z1, rfl⟩)
  have ek : kyM m = keyP P n := by
    unfold kyM keyP
    rw [mx (fun b => b % 8) (nX P n) (fun c hc => (dx c hc).1), mx (fun b => b / 8) (nY P n) (fun c hc => (dx c hc).2)]
    congr 1
    funext w
    refine Nat.eq_of_testBit_eq (fun e => Bool.eq_iff_iff.mpr ?_)
    rw [picL_t, msk_t]
    constructor
    · rintro ⟨b, b1, b2⟩
      obtain ⟨c, c1, rfl⟩ := (hb b).mp b1
      refine ⟨c, c1, ?_⟩
      rw [(dx c c1).1, (dx c c1).2] at b2
      exact b2
    · rintro ⟨c, c1, c2⟩
      refine ⟨_, (hb _).mpr ⟨c, c1, rfl⟩, ?_⟩
      rw [(dx c c1).1, (dx c c1).2]
      exact c2
  rw [← ek]
  exact hq
theorem nodup_len {S : List Nat} : ∀ {M : List Nat}, S.Nodup → (∀ s, s ∈ S → s ∈ M) → S.length ≤ M.length := by
  induction S with
  | nil => exact fun _ _ => Nat.zero_le _
  | cons a S ih =>
    intro M hN hM
    have ha := hM a List.mem_cons_self
    have h1 := List.length_erase_of_mem ha
    have h2 : 0 < M.length := List.length_pos_of_mem ha
    have h3 := ih (M := M.erase a) (List.nodup_cons.mp hN).2 (fun s hs => by
      have hne : s ≠ a := fun e => (List.nodup_cons.mp hN).1 (by rw [← e]; exact hs)
      exact (List.mem_erase_of_ne hne).mpr (hM s (List.mem_cons_of_mem _ hs)))
    rw [List.length_cons]
    omega
theorem inB_mem {B : List (List (List Nat))} {a b m : Nat} (h : inB B a b m = true) : m ∈ B.flatten.flatten := by
  have := inB_al (p := fun m => B.flatten.flatten.contains m) h (by
    unfold alB
    rw [List.all_eq_true]
    intro r hr
    rw [List.all_eq_true]
    intro c hc
    rw [List.all_eq_true]
    intro x hx
    exact List.contains_iff_mem.mpr (List.mem_flatten.mpr ⟨c, List.mem_flatten.mpr ⟨r, hr, hc⟩, hx⟩))
  exact List.contains_iff_mem.mp this
theorem q_len {S : List Nat} {n : Nat} (hn : 1 ≤ n ∧ n ≤ 8) (h : S.Nodup) (hq : ∀ s, s ∈ S → inQ n s = true) : S.length ≤ 369 := by
  have : n = 1 ∨ n = 2 ∨ n = 3 ∨ n = 4 ∨ n = 5 ∨ n = 6 ∨ n = 7 ∨ n = 8 := by omega
  have go : ∀ (B : List (List (List Nat))) (a b : Nat), (∀ s, s ∈ S → inB B a b s = true) → B.flatten.flatten.length ≤ 369 → S.length ≤ 369 := fun B a b h1 h2 => Nat.le_trans (nodup_len h (fun s hs => inB_mem (h1 s hs))) h2
  rcases this with rfl | rfl | rfl | rfl | rfl | rfl | rfl | rfl
  · exact go ql1 1 1 hq (by decide +kernel)
  · exact go ql2 1 1 hq (by decide +kernel)
  · exact go ql3 1 1 hq (by decide +kernel)
  · exact go ql4 1 1 hq (by decide +kernel)
  · exact go ql5 1 3 hq (by decide +kernel)
  · exact go ql6 3 5 hq (by decide +kernel)
  · exact go ql7 5 7 hq (by decide +kernel)
  · exact go ql8 7 11 hq (by decide +kernel)
