/-! ===== the class lays a tree flat ===== -/
def iI (z : Int) : Int32 := Int32.ofInt z
theorem iI_t {z : Int} (h : -1000000 ≤ z ∧ z ≤ 1000000) : (iI z).toInt = z := Int32.toInt_ofInt_of_le (by omega) (by omega)
theorem iI_add (a b : Int) : iI a + iI b = iI (a + b) := (Int32.ofInt_add a b).symm
theorem iI_sub (a b : Int) : iI a - iI b = iI (a - b) := (Int32.ofInt_sub a b).symm
theorem iI_neg (a : Int) : - iI a = iI (-a) := (Int32.ofInt_neg a).symm
theorem iI_n {n : Nat} (h : n ≤ 1000000) : nI n = iI (n : Int) := Int32.toInt_inj.mp (by rw [nI_toInt (by omega), iI_t (by omega)])
theorem iI_eq {a b : Int} (ha : -1000000 ≤ a ∧ a ≤ 1000000) (hb : -1000000 ≤ b ∧ b ≤ 1000000) : iI a = iI b ↔ a = b := by
  rw [← Int32.toInt_inj, iI_t ha, iI_t hb]
theorem iI_sx : ∀ s, s < 4 → stepX s = iI (dX s) ∧ stepY s = iI (dY s) := by decide
theorem iI_min {a b : Int} (ha : -1000000 ≤ a ∧ a ≤ 1000000) (hb : -1000000 ≤ b ∧ b ≤ 1000000) : jmin (iI a) (iI b) = iI (min a b) := by
  unfold jmin
  by_cases h : b < a
  · rw [if_pos (Int32.lt_iff_toInt_lt.mpr (by rw [iI_t ha, iI_t hb]; exact h)), Int.min_eq_right (by omega)]
  · rw [if_neg (fun q => h (by have := Int32.lt_iff_toInt_lt.mp q; rw [iI_t ha, iI_t hb] at this; exact this)), Int.min_eq_left (by omega)]
/-- side q is joined to what is beyond it -/
def jb (f : Nat → Nat) (l : List Nat) (q : Nat) : Bool := l.contains q || l.contains (f q)
theorem jb_is {f : Nat → Nat} {l : List Nat} {q : Nat} : jb f l q = true ↔ q ∈ l ∨ f q ∈ l := by
  unfold jb
  rw [Bool.or_eq_true, List.contains_iff_mem, List.contains_iff_mem]
theorem jb_coh {f : Nat → Nat} {l : List Nat} {P : Nat → PLc} {q : Nat} (hff : f (f q) = q) (ht : ∀ i, (P i).2.2 < 4) (hP : ∀ q, q ∈ l → Coh f P q) (h : jb f l q = true) : P (f q / 4) = stp f (P (q / 4)) q := by
  rcases jb_is.mp h with w | w
  · exact hP q w
  · have := (hP (f q) w).sym (by rw [hff]) (ht _)
    rw [hff] at this
    exact this
def JF (s : PS) (f : Nat → Nat) (n : Nat) (l : List Nat) : Prop := ∀ q, q < 4 * n → mi s 152 q = if jb f l q then 1 else 0
abbrev chLf : Nat → Nat → Prop := fun a i => 162 ≤ a ∧ a ≤ 165 ∨ a = 149 ∧ i = 14
/-- the cells laid so far, in their order -/
def LfI (s : PS) (n : Nat) (P : Nat → PLc) (pl : Nat → Bool) (k : Nat) : Prop := mi s 149 14 = nI k ∧ cnt pl n = k ∧ (∀ j, j < k → ∃ c, c < n ∧ mi s 165 j = nI c ∧ pl c = true) ∧ (∀ c, c < n → pl c = true → (∃ j, j < k ∧ mi s 165 j = nI c) ∧ mi s 162 c = iI (P c).1 ∧ mi s 163 c = iI (P c).2.1 ∧ mi s 164 c = nI (P c).2.2) ∧ ∀ c, c < n → pl c = false → mi s 164 c = -1
/-- no joined side of the first i cells leads out -/
def LfC (s : PS) (f : Nat → Nat) (n : Nat) (l : List Nat) (pl : Nat → Bool) (i : Nat) : Prop := ∀ j c, j < i → c < n → mi s 165 j = nI c → ∀ q, q / 4 = c → jb f l q = true → pl (f q / 4) = true
theorem lf_put {s s' : PS} {n k c : Nat} {P : Nat → PLc} {pl : Nat → Bool} (h : LfI s n P pl k) (hn8 : n ≤ 8) (hc : c < n) (hp : pl c = false) (hs : ∀ a j, mi s' a j = if a = 149 ∧ j = 14 then nI (k + 1) else if a = 165 ∧ j = k then nI c else if a = 162 ∧ j = c then iI (P c).1 else if a = 163 ∧ j = c then iI (P c).2.1 else if a = 164 ∧ j = c then nI (P c).2.2 else mi s a j) :
    LfI s' n P (fun i => pl i || i == c) (k + 1) := by
  obtain ⟨h1, h2, h3, h4, h5⟩ := h
  refine ⟨by rw [hs, if_pos ⟨rfl, rfl⟩], ?_, fun j hj => ?_, fun d hd hpd => ?_, fun d hd hpd => ?_⟩
  · rw [cnt_put hc, hp, h2]; rfl
  · by_cases e : j = k
    · subst e
      exact ⟨c, hc, by rw [hs, if_neg (by omega), if_pos ⟨rfl, rfl⟩], by simp⟩
    · obtain ⟨d, d1, d2, d3⟩ := h3 j (by omega)
      refine ⟨d, d1, ?_, by simp [d3]⟩
      rw [hs, if_neg (by omega), if_neg (by omega), if_neg (by omega), if_neg (by omega), if_neg (by omega)]
      exact d2
  · by_cases e : d = c
    · subst e
      refine ⟨⟨k, by omega, by rw [hs, if_neg (by omega), if_pos ⟨rfl, rfl⟩]⟩, ?_, ?_, ?_⟩
      · rw [hs, if_neg (by omega), if_neg (by omega), if_pos ⟨rfl, rfl⟩]
      · rw [hs, if_neg (by omega), if_neg (by omega), if_neg (by omega), if_pos ⟨rfl, rfl⟩]
      · rw [hs, if_neg (by omega), if_neg (by omega), if_neg (by omega), if_neg (by omega), if_pos ⟨rfl, rfl⟩]
    · have hpd' : pl d = true := by
        rw [Bool.or_eq_true, beq_iff_eq] at hpd
        exact hpd.resolve_right e
      obtain ⟨⟨j, j1, j2⟩, q1, q2, q3⟩ := h4 d hd hpd'
      refine ⟨⟨j, by omega, ?_⟩, ?_, ?_, ?_⟩
      · rw [hs, if_neg (by omega), if_neg (by omega), if_neg (by omega), if_neg (by omega), if_neg (by omega)]; exact j2
      · rw [hs, if_neg (by omega), if_neg (by omega), if_neg (by omega), if_neg (by omega), if_neg (by omega)]; exact q1
      · rw [hs, if_neg (by omega), if_neg (by omega), if_neg (by omega), if_neg (by omega), if_neg (by omega)]; exact q2
      · rw [hs, if_neg (by omega), if_neg (by omega), if_neg (by omega), if_neg (by omega), if_neg (by omega)]; exact q3
  · rw [Bool.or_eq_false_iff, beq_eq_false_iff_ne] at hpd
    have := hpd.2
    rw [hs, if_neg (by omega), if_neg (by omega), if_neg (by omega), if_neg (by omega), if_neg (by omega)]
    exact h5 d hd hpd.1
/-- the sides of one cell -/
theorem lf_40 {g : GV} {d n i c : Nat} {f : Nat → Nat} {l : List Nat} {P : Nat → PLc} {Q : PS → Prop} (hn8 : n ≤ 8) (hc : c < n) (hff : ∀ q, q < 4 * n → f (f q) = q) (ht : ∀ i, (P i).2.2 < 4) (hP : ∀ q, q ∈ l → Coh f P q) : ∀ (z sd : Nat) (pl : Nat → Bool) (k : Nat) (τ : PS), sd + z = 4 → Lay τ → BD τ 129 n f → JF τ f n l → LfI τ n P pl k → i < k → mi τ 165 i = nI c → pl c = true → LfC τ f n l pl i → (∀ sd', sd' < sd → jb f l (4 * c + (sd' + (P c).2.2) % 4) = true → pl (f (4 * c + (sd' + (P c).2.2) % 4) / 4) = true) →
    (∀ s pl' k', LfI s n P pl' k' → k ≤ k' → (∀ e, pl e = true → pl' e = true) → LfC s f n l pl' (i + 1) → Ch chLf noL τ s → VX9_layFlat g (d + 1) Q 23 [some (.ref 149), some (.int (nI (i + 1))), none, none, none, none, none] [] s) →
    VX9_layFlat g (d + 1) Q 40 [some (.ref 149), some (.int (nI i)), some (.int (nI c)), some (.int (nI sd)), none, none, none] [] τ := by
  intro z
  induction z with
  | zero =>
    intro sd pl k τ hz hL hB hJ hI hik h165 hpc hC hs hgo
    have : sd = 4 := by omega
    subst this
    refine vcX9_layFlat_40 hL _ _ _ ⟨fun _ x10 e10 => ?_, fun h => absurd (Int32.le_refl _) h⟩
    rw [inc e10]
    refine hgo τ pl k hI (Nat.le_refl _) (fun _ h => h) (fun j c' hj hc' e q hq hjb => ?_) Ch.rf
    by_cases ej : j = i
    · subst ej
      rw [h165, zEQ (by omega) (by omega)] at e
      subst e
      have hq' : q = 4 * c + ((q % 4 + 4 - (P c).2.2) % 4 + (P c).2.2) % 4 := by
        have := ht c
        omega
      rw [hq'] at hjb ⊢
      exact hs _ (Nat.mod_lt _ (by decide)) hjb
    · exact hC j c' (by omega) hc' e q hq hjb
  | succ z ih =>
    intro sd pl k τ hz hL hB hJ hI hik h165 hpc hC hs hgo
    obtain ⟨b1, -, b3⟩ := hB
    have hI' := hI
    obtain ⟨h1, h2, h3, h4, h5⟩ := hI
    obtain ⟨-, v1, v2, v3⟩ := h4 c hc hpc
    have htc := ht c
    refine vcX9_layFlat_40 hL _ _ _ ⟨fun h => ?_, fun _ => ?_⟩
    · rw [lit32 4, zLE (by omega) (by omega)] at h
      omega
    rw [zIN (by omega) (by omega), zCL (by omega), zCL (by omega), v1, v2, v3]
    refine ⟨by omega, fun x13 e13 => ?_⟩
    rw [nI_add, lit32 4, zREM (by omega) (by omega) (by omega), pk_mul, nI_add, Nat.mul_comm c 4] at e13
    have hqn : 4 * c + (sd + (P c).2.2) % 4 < 4 * n := by omega
    generalize hq : 4 * c + (sd + (P c).2.2) % 4 = q at e13 hqn
    subst e13
    obtain ⟨f1, f2, f3⟩ := b3 q hqn
    rw [zIN (by omega) (by omega), zIN (by omega) (by omega), zCL (by omega), f2, f3, hJ q hqn]
    refine ⟨by omega, fun x16 e16 => ?_⟩
    subst e16
    have hd : f q / 4 < n := by omega
    rw [zIN (by omega) (by omega), zCL (by omega)]
    have next : ∀ (s : PS) (pl' : Nat → Bool) (k' : Nat), LfI s n P pl' k' → k ≤ k' → (∀ e, pl e = true → pl' e = true) → Ch chLf noL τ s → (∀ j, j < k → mi s 165 j = mi τ 165 j) → (jb f l q = true → pl' (f q / 4) = true) → ∀ x : Int32, x = nI sd + 1 → VX9_layFlat g (d + 1) Q 40 [some (.ref 149), some (.int (nI i)), some (.int (nI c)), some (.int x), none, none, none] [] s := by
      intro s pl' k' a1 a2 a3 a4 a5 a6 x ex
      rw [inc ex]
      refine ih (sd + 1) pl' k' s (by omega) (a4.lay hL) ⟨by rw [a4.i (by omega)]; exact b1, by omega, fun q hq => ⟨(b3 q hq).1, by rw [a4.i (by omega)]; exact (b3 q hq).2.1, by rw [a4.i (by omega)]; exact (b3 q hq).2.2⟩⟩ (fun q hq => by rw [a4.i (by omega)]; exact hJ q hq) a1 (by omega) (by rw [a5 i hik]; exact h165) (a3 c hpc) (fun j c' hj hc' e => ?_) (fun sd' hsd' hjb => ?_) (fun s2 pl2 k2 g1 g2 g3 g4 g5 => hgo s2 pl2 k2 g1 (by omega) (fun e he => g3 e (a3 e he)) g4 (a4.trans g5))
      · rw [a5 j (by omega)] at e
        exact fun q hq hjb => a3 _ (hC j c' hj hc' e q hq hjb)
      · by_cases es : sd' = sd
        · subst es
          rw [hq] at hjb ⊢
          exact a6 hjb
        · exact a3 _ (hs sd' (by omega) hjb)
    refine ⟨by omega, fun hj0 x ex => ?_, fun hj0 => ⟨by omega, fun hpl x ex => ?_, fun hpl => ⟨by omega, fun x25 e25 => ?_⟩⟩⟩
    · have hjf : ¬ jb f l q = true := fun w => by rw [if_pos w] at hj0; exact absurd hj0 (by decide)
      exact next τ pl k hI' (Nat.le_refl _) (fun _ h => h) Ch.rf (fun _ _ => rfl) (fun w => absurd w hjf) x ex
    · have hpt : pl (f q / 4) = true := by
        cases w : pl (f q / 4) with
        | true => rfl
        | false => exact absurd (h5 _ hd w) hpl
      exact next τ pl k hI' (Nat.le_refl _) (fun _ h => h) Ch.rf (fun _ _ => rfl) (fun _ => hpt) x ex
    · have hjt : jb f l q = true := Classical.byContradiction (fun w => hj0 (by rw [if_neg w]))
      have hpf : pl (f q / 4) = false := by
        cases w : pl (f q / 4) with
        | false => rfl
        | true =>
          have := (h4 _ hd w).2.2.2
          rw [hpl] at this
          exact absurd this.symm (m1_ne (by have := ht (f q / 4); omega))
      have hco := jb_coh (hff q hqn) ht hP hjt
      have hqc : q / 4 = c := by omega
      rw [hqc] at hco
      have hg : (q % 4 + 4 - (P c).2.2) % 4 = sd := by omega
      have hcx : (P (f q / 4)).1 = (P c).1 + dX sd := by rw [hco]; show _ + dX ((q % 4 + 4 - (P c).2.2) % 4) = _; rw [hg]
      have hcy : (P (f q / 4)).2.1 = (P c).2.1 + dY sd := by rw [hco]; show _ + dY ((q % 4 + 4 - (P c).2.2) % 4) = _; rw [hg]
      have hct : (P (f q / 4)).2.2 = (f q % 4 + 6 - sd) % 4 := by rw [hco]; show (f q % 4 + 6 - (q % 4 + 4 - (P c).2.2) % 4) % 4 = _; rw [hg]
      have hkn : k < n := by
        have := cnt_lt (p := pl) (q := fun _ => true) (n := n) (fun _ _ _ => rfl) hd hpf rfl
        rw [cnt_tt] at this
        omega
      rw [lit32 6, nI_add, pk_sub (by omega), lit32 4, zREM (by omega) (by omega) (by omega), ← hct] at e25
      subst e25
      rw [zIN (by omega) (by omega), (iI_sx sd (by omega)).1, (iI_sx sd (by omega)).2, iI_add, iI_add, ← hcx, ← hcy]
      refine ⟨by omega, by omega, by omega, by omega, ?_⟩
      generalize hdd : f q / 4 = dd at *
      refine vcX9_put hL _ _ _ _ ?_
      rw [zIN (by omega) (by omega), zCL (by omega)]
      refine ⟨by omega, fun s2 e2 => ⟨by omega, fun s5 e5 => ⟨by omega, fun s8 e8 => ?_⟩⟩⟩
      have h14 : mi s8 149 14 = nI k := by rw [e8, mi_si, if_neg (by omega), e5, mi_si, if_neg (by omega), e2, mi_si, if_neg (by omega)]; exact h1
      rw [h14, zIN (by omega) (by omega), zCL (by omega)]
      refine ⟨by omega, fun s11 e11 s13 e13 => ?_⟩
      have h14b : mi s11 149 14 = nI k := by rw [e11, mi_si, if_neg (by omega)]; exact h14
      rw [h14b, inc rfl] at e13
      have c13 : Ch chLf noL τ s13 := by
        rw [e13, e11, e8, e5, e2]
        exact (((((Ch.rf : Ch chLf noL τ τ).si (by omega)).si (by omega)).si (by omega)).si (by omega)).si (by omega)
      refine ⟨c13.fr, fun x ex => next s13 (fun i => pl i || i == dd) (k + 1) (lf_put hI' hn8 hd hpf (fun a j => ?_)) (by omega) (fun e he => by simp [he]) c13 (fun j hj => ?_) (fun _ => by simp) x ex⟩
      · rw [e13, mi_si, e11, mi_si, e8, mi_si, e5, mi_si, e2, mi_si]
        by_cases k1 : a = 149 ∧ j = 14
        · rw [if_pos k1, if_pos k1]
        rw [if_neg k1, if_neg k1]
        by_cases k2 : a = 165 ∧ j = k
        · rw [if_pos k2, if_pos k2]
        rw [if_neg k2, if_neg k2]
        by_cases k3 : a = 164 ∧ j = dd
        · rw [if_pos k3, if_neg (by omega), if_neg (by omega), if_pos k3]
        rw [if_neg k3]
        by_cases k4 : a = 163 ∧ j = dd
        · rw [if_pos k4, if_neg (by omega), if_pos k4]
        rw [if_neg k4]
        by_cases k5 : a = 162 ∧ j = dd
        · rw [if_pos k5, if_pos k5]
        rw [if_neg k5, if_neg k5, if_neg k4, if_neg k3]
      · rw [e13, mi_si, if_neg (by omega), e11, mi_si, if_neg (by omega), e8, mi_si, if_neg (by omega), e5, mi_si, if_neg (by omega), e2, mi_si, if_neg (by omega)]
theorem lf_23 {g : GV} {d n : Nat} {f : Nat → Nat} {l : List Nat} {P : Nat → PLc} {Q : PS → Prop} (hn8 : n ≤ 8) (hff : ∀ q, q < 4 * n → f (f q) = q) (ht : ∀ i, (P i).2.2 < 4) (hP : ∀ q, q ∈ l → Coh f P q) : ∀ (z i : Nat) (pl : Nat → Bool) (k : Nat) (τ : PS), i + z = n → i ≤ k → Lay τ → BD τ 129 n f → JF τ f n l → LfI τ n P pl k → LfC τ f n l pl i →
    (∀ s pl' k', LfI s n P pl' k' → (∀ e, pl e = true → pl' e = true) → LfC s f n l pl' k' → Ch chLf noL τ s → Q s) →
    VX9_layFlat g (d + 1) Q 23 [some (.ref 149), some (.int (nI i)), none, none, none, none, none] [] τ := by
  intro z
  induction z with
  | zero =>
    intro i pl k τ hz hik hL hB hJ hI hC hgo
    have hk : k ≤ n := by rw [← hI.2.1]; exact cnt_le pl n
    have e : i = k := by omega
    subst e
    exact vcX9_layFlat_23 hL _ ⟨fun _ => hgo τ pl i hI (fun _ h => h) hC Ch.rf, fun h => absurd (by rw [hI.1]; exact Int32.le_refl _) h⟩
  | succ z ih =>
    intro i pl k τ hz hik hL hB hJ hI hC hgo
    have hk : k ≤ n := by rw [← hI.2.1]; exact cnt_le pl n
    refine vcX9_layFlat_23 hL _ ⟨fun h => ?_, fun h => ?_⟩
    · rw [hI.1, zLE (by omega) (by omega)] at h
      have e : i = k := by omega
      subst e
      exact hgo τ pl i hI (fun _ h => h) hC Ch.rf
    · rw [hI.1, zLE (by omega) (by omega)] at h
      obtain ⟨c, c1, c2, c3⟩ := hI.2.2.1 i (by omega)
      rw [zIN (by omega) (by omega), zCL (by omega), c2]
      refine ⟨by omega, fun x8 e8 => ?_⟩
      subst e8
      refine lf_40 (n := n) (f := f) (l := l) (P := P) hn8 c1 hff ht hP 4 0 pl k τ rfl hL hB hJ hI (by omega) c2 c3 hC (fun sd' h => by omega) (fun s pl' k' a1 a2 a3 a4 a5 => ?_)
      obtain ⟨b1, b2, b3⟩ := hB
      exact ih (i + 1) pl' k' s (by omega) (by omega) (a5.lay hL) ⟨by rw [a5.i (by omega)]; exact b1, b2, fun q hq => ⟨(b3 q hq).1, by rw [a5.i (by omega)]; exact (b3 q hq).2.1, by rw [a5.i (by omega)]; exact (b3 q hq).2.2⟩⟩ (fun q hq => by rw [a5.i (by omega)]; exact hJ q hq) a1 a4 (fun s2 pl2 k2 g1 g2 g3 g4 => hgo s2 pl2 k2 g1 (fun e he => g2 e (a3 e he)) g3 (a5.trans g4))
/-- all cells lie as the tree says -/
def Lyd (s : PS) (n : Nat) (P : Nat → PLc) : Prop := ∀ c, c < n → mi s 162 c = iI (P c).1 ∧ mi s 163 c = iI (P c).2.1
theorem sp_layFlat {g : GV} {d n : Nat} {f : Nat → Nat} {l : List Nat} {P : Nat → PLc} {σ : PS} (hL : Lay σ) (hn8 : n ≤ 8) (hf : ∀ q, q < 4 * n → f q < 4 * n) (hff : ∀ q, q < 4 * n → f (f q) = q) (hA : Acy f n l) (hl : l.length + 1 = n) (h0 : P 0 = (0, 0, 0)) (ht : ∀ i, (P i).2.2 < 4) (hP : ∀ q, q ∈ l → Coh f P q) (hB : BD σ 129 n f) (hJ : JF σ f n l) :
    CX9_layFlat g (d + 1) [.ref 149] σ (fun s => Lyd s n P ∧ Ch chLf noL σ s) := by
  generalize hQ : (fun (s : PS) => Lyd s n P ∧ Ch chLf noL σ s) = Q
  refine vcX9_layFlat hL (Ct.imp (sp_fill hL (kd_164 hL) (by omega)) (fun r s1 w => ?_))
  obtain ⟨rfl, k1, c1⟩ := w
  have c1' : Ch chLf noL σ s1 := c1.mono (fun a k h => by omega) (fun _ _ h => h)
  refine ⟨rfl, c1.fr, fun s3 e3 => ?_⟩
  have c3 : Ch chLf noL σ s3 := by rw [e3]; exact c1'.si (by omega)
  have hL3 := c3.lay hL
  refine vcX9_put hL3 _ _ _ _ ?_
  rw [lit32 0, zIN (by omega) (by omega), zCL (by omega)]
  refine ⟨by omega, fun s2 e2 => ⟨by omega, fun s5 e5 => ⟨by omega, fun s8 e8 => ?_⟩⟩⟩
  have h14 : mi s8 149 14 = nI 0 := by rw [e8, mi_si, if_neg (by omega), e5, mi_si, if_neg (by omega), e2, mi_si, if_neg (by omega), e3, mi_si, if_pos ⟨rfl, rfl⟩]; rfl
  rw [h14, zIN (by omega) (by omega), zCL (by omega)]
  refine ⟨by omega, fun s11 e11 s13 e13 => ?_⟩
  have h14b : mi s11 149 14 = nI 0 := by rw [e11, mi_si, if_neg (by omega)]; exact h14
  rw [h14b, lit32 1, nI_add] at e13
  have c13 : Ch chLf noL s3 s13 := by
    rw [e13, e11, e8, e5, e2]
    exact (((((Ch.rf : Ch chLf noL s3 s3).si (by omega)).si (by omega)).si (by omega)).si (by omega)).si (by omega)
  have d13 := c3.trans c13
  refine ⟨c13.fr, ?_⟩
  have hz0 : (fun i => (fun _ => false : Nat → Bool) i || i == 0) = fun i : Nat => i == 0 := by funext i; rfl
  have hI0 : LfI s3 n P (fun _ => false) 0 := by
    refine ⟨by rw [e3, mi_si, if_pos ⟨rfl, rfl⟩]; rfl, ?_, fun j hj => by omega, fun c _ h => (nomatch h), fun c hc _ => by rw [e3, mi_si, if_neg (by omega)]; exact k1 c (by omega)⟩
    have : ∀ k, cnt (fun _ => false) k = 0 := by
      intro k
      induction k with
      | zero => rfl
      | succ k ih => rw [cnt_s, ih]; rfl
    exact this n
  have hI1 := lf_put (s' := s13) hI0 hn8 (show 0 < n by omega) rfl (fun a j => by
    rw [h0, e13, mi_si, e11, mi_si, e8, mi_si, e5, mi_si, e2, mi_si]
    by_cases k1 : a = 149 ∧ j = 14
    · rw [if_pos k1, if_pos k1]
    rw [if_neg k1, if_neg k1]
    by_cases k2 : a = 165 ∧ j = 0
    · rw [if_pos k2, if_pos k2]
    rw [if_neg k2, if_neg k2]
    by_cases k3 : a = 164 ∧ j = 0
    · rw [if_pos k3, if_neg (by omega), if_neg (by omega), if_pos k3]
    rw [if_neg k3]
    by_cases k4 : a = 163 ∧ j = 0
    · rw [if_pos k4, if_neg (by omega), if_pos k4]; rfl
    rw [if_neg k4]
    by_cases k5 : a = 162 ∧ j = 0
    · rw [if_pos k5, if_pos k5]; rfl
    rw [if_neg k5, if_neg k5, if_neg k4, if_neg k3])
  obtain ⟨b1, b2, b3⟩ := hB
  refine lf_23 (n := n) (f := f) (l := l) (P := P) hn8 hff ht hP n 0 _ 1 s13 (by omega) (by omega) (d13.lay hL) ⟨by rw [d13.i (by omega)]; exact b1, b2, fun q hq => ⟨(b3 q hq).1, by rw [d13.i (by omega)]; exact (b3 q hq).2.1, by rw [d13.i (by omega)]; exact (b3 q hq).2.2⟩⟩ (fun q hq => by rw [d13.i (by omega)]; exact hJ q hq) hI1 (fun j c hj => by omega) (fun s pl k a1 a2 a3 a4 => ?_)
  rw [← hQ]
  refine ⟨fun c hc => ?_, d13.trans a4⟩
  have hp0 : pl 0 = true := a2 0 (by simp)
  have hcl : ∀ q, q < 4 * n → jb f l q = true → pl (q / 4) = true → pl (f q / 4) = true := by
    intro q hq hjb hpq
    obtain ⟨⟨j, j1, j2⟩, -⟩ := a1.2.2.2.1 (q / 4) (by omega) hpq
    exact a3 j (q / 4) j1 (by omega) j2 q rfl hjb
  have hpc : pl c = true := by
    refine (lbs_cl (f := f) (S := fun k => pl k = true) l (fun q hq => ?_) 0 c (by rw [lbs_one hf hA hl 0 (by omega), lbs_one hf hA hl c hc])).mp hp0
    have hqn := acy_lt hA hq
    refine ⟨hcl q hqn (jb_is.mpr (Or.inl hq)), fun h => ?_⟩
    have := hcl (f q) (hf q hqn) (jb_is.mpr (Or.inr (by rw [hff q hqn]; exact hq))) h
    rw [hff q hqn] at this
    exact this
  exact ⟨(a1.2.2.2.1 c hc hpc).2.1, (a1.2.2.2.1 c hc hpc).2.2.1⟩
