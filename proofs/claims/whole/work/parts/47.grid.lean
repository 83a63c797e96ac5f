/-! ===== the cells of a field of 256 squares, in their order ===== -/
def gl' (gr : Nat → Bool) : Nat → List Nat
  | 0 => []
  | k + 1 => gl' gr k ++ (if gr k then [k] else [])
theorem gl_s (gr : Nat → Bool) (k : Nat) : gl' gr (k + 1) = gl' gr k ++ (if gr k then [k] else []) := rfl
theorem cnt_s (p : Nat → Bool) (n : Nat) : cnt p (n + 1) = cnt p n + (if p n then 1 else 0) := rfl
theorem gl_len (gr : Nat → Bool) (k : Nat) : (gl' gr k).length = cnt gr k := by
  induction k with
  | zero => rfl
  | succ k ih =>
    rw [gl_s, cnt_s, List.length_append, ih]
    cases gr k <;> rfl
def gat (gr : Nat → Bool) (i : Nat) : Nat := (gl' gr 256).getD i 0
def gX (gr : Nat → Bool) (i : Nat) : Nat := gat gr i % 16
def gY (gr : Nat → Bool) (i : Nat) : Nat := gat gr i / 16
theorem gl_in {gr : Nat → Bool} {k i : Nat} (h : i < cnt gr k) : (gl' gr k).getD i 0 < k ∧ gr ((gl' gr k).getD i 0) = true ∧ ∀ j, j < i → (gl' gr k).getD j 0 < (gl' gr k).getD i 0 := by
  induction k generalizing i with
  | zero => exact absurd h (Nat.not_lt_zero _)
  | succ k ih =>
    have hl := gl_len gr k
    have key : ∀ j, j < cnt gr k → (gl' gr (k + 1)).getD j 0 = (gl' gr k).getD j 0 := by
      intro j hj
      rw [gl_s, List.getD_eq_getElem?_getD, List.getD_eq_getElem?_getD, List.getElem?_append_left (by omega)]
    by_cases hi : i < cnt gr k
    · rw [key i hi]
      obtain ⟨a, b, c⟩ := ih hi
      exact ⟨by omega, b, fun j hj => by rw [key j (by omega)]; exact c j hj⟩
    · rw [cnt_s] at h
      cases hg : gr k with
      | false => rw [hg] at h; simp at h; omega
      | true =>
        rw [hg] at h
        simp at h
        have e : i = cnt gr k := by omega
        have ei : (gl' gr (k + 1)).getD i 0 = k := by
          rw [gl_s, hg, List.getD_eq_getElem?_getD, List.getElem?_append_right (by omega), hl, e]
          simp
        rw [ei]
        exact ⟨by omega, hg, fun j hj => by rw [key j (by omega)]; exact (ih (by omega)).1⟩
theorem gl_mono {gr : Nat → Bool} {k m i : Nat} (hk : k ≤ m) (h : i < cnt gr k) : (gl' gr m).getD i 0 = (gl' gr k).getD i 0 := by
  induction m with
  | zero => rw [show k = 0 by omega]
  | succ m ih =>
    by_cases e : k = m + 1
    · rw [e]
    · rw [← ih (by omega)]
      have hl := gl_len gr m
      have : cnt gr k ≤ cnt gr m := by
        have hk2 : k ≤ m := by omega
        clear ih e h hl hk
        induction m with
        | zero => rw [show k = 0 by omega]; exact Nat.le_refl _
        | succ m ih2 =>
          by_cases e2 : k = m + 1
          · rw [e2]; exact Nat.le_refl _
          · exact Nat.le_trans (ih2 (by omega)) (by show cnt gr m ≤ cnt gr m + _; omega)
      show (gl' gr m ++ _).getD i 0 = _
      rw [List.getD_eq_getElem?_getD, List.getD_eq_getElem?_getD, List.getElem?_append_left (by omega)]
theorem cnt_mono_n {gr : Nat → Bool} {k m : Nat} (h : k ≤ m) : cnt gr k ≤ cnt gr m := by
  induction m with
  | zero => rw [show k = 0 by omega]; exact Nat.le_refl _
  | succ m ih =>
    by_cases e : k = m + 1
    · rw [e]; exact Nat.le_refl _
    · exact Nat.le_trans (ih (by omega)) (by show cnt gr m ≤ cnt gr m + _; omega)
theorem g_at {gr : Nat → Bool} {k : Nat} (hk : k < 256) (hg : gr k = true) : gat gr (cnt gr k) = k ∧ cnt gr k < cnt gr 256 := by
  have h1 : cnt gr k < cnt gr (k + 1) := by rw [cnt_s, hg]; simp
  have h2 := cnt_mono_n (gr := gr) (show k + 1 ≤ 256 by omega)
  refine ⟨?_, by omega⟩
  unfold gat
  rw [gl_mono (show k + 1 ≤ 256 by omega) h1]
  have hl := gl_len gr k
  rw [gl_s, hg, List.getD_eq_getElem?_getD, List.getElem?_append_right (by omega), hl]
  simp
theorem g_b {gr : Nat → Bool} {i : Nat} (h : i < cnt gr 256) : gX gr i < 16 ∧ gY gr i < 16 := by
  have := (gl_in h).1
  unfold gX gY gat
  omega
theorem g_dst (gr : Nat → Bool) : Dst (cnt gr 256) (gX gr) (gY gr) := by
  intro i j hi hj hx hy
  have a := gl_in hi
  have b := gl_in hj
  unfold gX at hx
  unfold gY at hy
  have e : gat gr i = gat gr j := by omega
  rcases Nat.lt_trichotomy i j with q | q | q
  · have := b.2.2 i q; unfold gat at e; omega
  · exact q
  · have := a.2.2 j q; unfold gat at e; omega
theorem g_opn {gr : Nat → Bool} (h : 0 < cnt gr 256) : Opn (cnt gr 256) (gX gr) (gY gr) (0, 0) := by
  refine ⟨h, by decide, ?_⟩
  cases hb : bhd (cnt gr 256) (gX gr) (gY gr) 0 0 with
  | none => rfl
  | some k =>
    exfalso
    obtain ⟨hk, h1, h2⟩ := bhd_s hb
    simp [dY] at h2
    have h3 : gat gr 0 ≤ gat gr k := by
      rcases Nat.eq_zero_or_pos k with e | e
      · rw [e]; exact Nat.le_refl _
      · exact Nat.le_of_lt ((gl_in hk).2.2 0 e)
    unfold gY at h2
    omega
/-- what the figure's fault is: none, or 8, 9, 10 -/
def fgF (n : Nat) (x y : Nat → Nat) (E : Nat) : Nat := if n = 0 then 8 else if itr n x y n = 2 ^ n - 1 then (if E = opc n x y then 0 else 10) else 9
abbrev chLy : Nat → Nat → Prop := fun a i => a = 201 ∨ a = 202 ∨ (a = 179 ∧ i = 35)
theorem sp_lays {g : GV} {d : Nat} {gr : Nat → Bool} {σ : PS} (hL : Lay σ) (hg : ∀ k, k < 256 → mi σ 200 k = if gr k then 1 else 0) (hn : cnt gr 256 ≤ 10) :
    CX12_lays g (d + 3) [.ref 179] σ (fun v s => MC s (cnt gr 256) (gX gr) (gY gr) ∧ (∃ E, (0 < cnt gr 256 → Per (cnt gr 256) (gX gr) (gY gr) E ∧ E ≤ opc (cnt gr 256) (gX gr) (gY gr)) ∧ v = nI (fgF (cnt gr 256) (gX gr) (gY gr) E)) ∧ Ch chLy noL σ s) := by
  have hx : ∃ E, 0 < cnt gr 256 → Per (cnt gr 256) (gX gr) (gY gr) E ∧ E ≤ opc (cnt gr 256) (gX gr) (gY gr) := by
    by_cases h : 0 < cnt gr 256
    · obtain ⟨E, a, b, c, e, f⟩ := rim_period (g_dst gr) (g_opn h)
      exact ⟨E, fun _ => ⟨⟨a, c, e, f⟩, b⟩⟩
    · exact ⟨0, fun q => absurd q h⟩
  obtain ⟨E, hE⟩ := hx
  generalize hP : (fun (v : Int32) (s : PS) => MC s (cnt gr 256) (gX gr) (gY gr) ∧ (∃ E, (0 < cnt gr 256 → Per (cnt gr 256) (gX gr) (gY gr) E ∧ E ≤ opc (cnt gr 256) (gX gr) (gY gr)) ∧ v = nI (fgF (cnt gr 256) (gX gr) (gY gr) E)) ∧ Ch chLy noL σ s) = P
  have loop : ∀ (z k : Nat) (s : PS), z = 256 - k → k ≤ 256 → Ch chLy noL σ s → mi s 179 35 = nI (cnt gr k) → (∀ i, i < cnt gr k → mi s 201 i = nI (gX gr i) ∧ mi s 202 i = nI (gY gr i)) →
      VX12_lays g (d + 3) P 7 [some (.ref 179), some (.int (nI k))] [] s := by
    intro z
    induction z with
    | zero =>
      intro k s hz hk c h0 hi
      have e : k = 256 := by omega
      subst e
      have hM : MC s (cnt gr 256) (gX gr) (gY gr) := ⟨h0, hn, fun i h => g_b h, fun i h => (hi i h).1, fun i h => (hi i h).2⟩
      have hL2 := c.lay hL
      refine vcX12_lays_7 hL2 _ ⟨fun _ => ⟨fun hne => ?_, fun heq => ?_⟩, fun hc => absurd (show (256 : Int32) ≤ nI 256 by decide) hc⟩
      · rw [h0, nI0 (by omega)] at hne
        have hpos : 0 < cnt gr 256 := by omega
        obtain ⟨hper, hle⟩ := hE hpos
        have ho4 := cnt_le (fun q => (bhd (cnt gr 256) (gX gr) (gY gr) (q / 4) (q % 4)).isNone) (4 * cnt gr 256)
        have ho5 : opc (cnt gr 256) (gX gr) (gY gr) ≤ 40 := by unfold opc; omega
        refine Ct.imp (sp_hangs hL2 hM hpos) (fun r t q => ?_)
        obtain ⟨v, rfl, rfl, rfl⟩ := q
        have hany := hang_any (x := gX gr) (y := gY gr) hpos hn
        refine ⟨_, rfl, Fr.rf, fun hv => ?_, fun hv => ?_⟩
        · have hh : itr (cnt gr 256) (gX gr) (gY gr) 10 = 2 ^ cnt gr 256 - 1 := Classical.byContradiction fun q => hv (by rw [if_neg q])
          refine Ct.imp (sp_rimmed hL2 hM (g_dst gr) (g_opn hpos) hper (by omega)) (fun r t q => ?_)
          obtain ⟨v, rfl, rfl, rfl⟩ := q
          refine ⟨_, rfl, Fr.rf, Ct.imp (sp_openSides hL2 hM) (fun r t q => ?_)⟩
          obtain ⟨v, rfl, rfl, rfl⟩ := q
          refine ⟨_, rfl, Fr.rf, ?_⟩
          rw [zLE (by omega) (by omega), ← hP]
          have hf : fgF (cnt gr 256) (gX gr) (gY gr) E = if E = opc (cnt gr 256) (gX gr) (gY gr) then 0 else 10 := by
            unfold fgF
            rw [if_neg hne, if_pos (hany.mpr hh)]
          refine ⟨fun h1 => ⟨hM, ⟨E, hE, ?_⟩, c⟩, fun h1 => ⟨hM, ⟨E, hE, ?_⟩, c⟩⟩
          · rw [hf, if_pos (by omega)]; rfl
          · rw [hf, if_neg (by omega)]; rfl
        · have hh : ¬ itr (cnt gr 256) (gX gr) (gY gr) 10 = 2 ^ cnt gr 256 - 1 := fun q => by rw [if_pos q] at hv; exact absurd hv (by decide)
          rw [← hP]
          refine ⟨hM, ⟨E, hE, ?_⟩, c⟩
          unfold fgF
          rw [if_neg hne, if_neg (fun q => hh (hany.mp q))]
          rfl
      · rw [h0, nI0 (by omega)] at heq
        rw [← hP]
        refine ⟨hM, ⟨E, hE, ?_⟩, c⟩
        unfold fgF
        rw [if_pos heq]
        rfl
    | succ z ih =>
      intro k s hz hk c h0 hi
      have hL2 := c.lay hL
      have hgk : mi s 200 k = if gr k then 1 else 0 := by rw [c.i (by simp [chLy])]; exact hg k (by omega)
      refine vcX12_lays_7 hL2 _ ⟨fun hc => ?_, fun _ => ?_⟩
      · rw [lit32 256, zLE (by omega) (by omega)] at hc
        omega
      · simp (disch := omega) only [zIN, zCL]
        rw [hgk]
        refine ⟨by omega, fun hne => ?_, fun heq x20 e20 => ?_⟩
        · have hgt : gr k = true := by
            cases hq : gr k with
            | true => rfl
            | false => rw [hq] at hne; exact absurd rfl hne
          obtain ⟨a1, a2⟩ := g_at (by omega) hgt
          rw [h0]
          simp (disch := omega) only [zIN, zCL]
          refine ⟨by omega, fun s11 e11 => ?_⟩
          have f11 : mi s11 179 35 = nI (cnt gr k) := by rw [e11, mi_si, if_neg (by omega)]; exact h0
          rw [f11]
          simp (disch := omega) only [zIN, zCL]
          refine ⟨by omega, fun s14 e14 s16 e16 x18 e18 => ?_⟩
          have f14 : mi s14 179 35 = nI (cnt gr k) := by rw [e14, mi_si, if_neg (by omega)]; exact f11
          rw [f14, lit32 1, nI_add] at e16
          rw [lit32 16, zREM (by omega) (by omega) (by omega)] at e11
          rw [lit32 16, zDIV (by omega) (by omega) (by omega)] at e14
          have c2 : Ch chLy noL σ s16 := by rw [e16, e14, e11]; exact ((c.si (by simp [chLy])).si (by simp [chLy])).si (by simp [chLy])
          have ec : cnt gr (k + 1) = cnt gr k + 1 := by rw [cnt_s, hgt]; simp
          rw [inc e18]
          refine ih (k + 1) s16 (by omega) (by omega) c2 ?_ (fun i hi2 => ?_)
          · rw [e16, mi_si, if_pos ⟨rfl, rfl⟩, ec]
          · rw [e16, e14, e11]
            simp only [mi_si]
            by_cases q : i = cnt gr k
            · subst q
              have := a1
              simp [gX, gY, this]
            · have := hi i (by omega)
              simp [q, this.1, this.2]
        · have hgf : gr k = false := by
            cases hq : gr k with
            | false => rfl
            | true => rw [hq] at heq; exact absurd heq (by decide)
          have ec : cnt gr (k + 1) = cnt gr k := by
            show cnt gr k + (if gr k then 1 else 0) = _
            rw [hgf]; simp
          rw [inc e20]
          refine ih (k + 1) s (by omega) (by omega) c (by rw [ec]; exact h0) (fun i hi2 => hi i (by omega))
  refine vcX12_lays hL (fun s1 e1 => ?_)
  exact loop 256 0 s1 rfl (by omega) (by rw [e1]; exact Ch.rf.si (by simp [chLy])) (by rw [e1, mi_si, if_pos ⟨rfl, rfl⟩]; rfl) (fun i hi => by exact absurd hi (Nat.not_lt_zero _))
