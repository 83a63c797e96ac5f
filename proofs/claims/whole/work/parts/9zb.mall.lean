/-! ===== the reference's readsAll: its contract ===== -/
theorem TM.tx {σ s : PS} {L : List Nat} (h : TM σ L) (hl : L.length ≤ 1000) (hc : ∀ i, lc L i < 127) (h3 : mi s 179 3 = mi σ 179 1) (h180 : ∀ i, mi s 180 i = mi σ 180 i) : TX s L :=
  ⟨by rw [h3]; exact h.1, hl, fun i hi => ⟨by rw [h180]; exact h.2 i _ (by unfold lc; rw [List.getD_eq_getElem?_getD, List.getElem?_eq_getElem hi]; rfl), hc i⟩⟩
/-- what comes of a text read by the reference -/
def RaP (L : List Nat) (v : Int32) (s : PS) : Prop := (∃ T N m j C, p1 L (nt L + 1) 0 n0 0 = .inl (T, N) ∧ v = 1 ∧ itS L m = (T, N, j) ∧ tK L j = 0 ∧ MS s L T N C j m ∧ Recs s L C m) ∨ ∃ e m, p1 L (nt L + 1) 0 n0 0 = .inr (e, m) ∧ v = 0 ∧ mi s 179 9 = nI (e + 16 * tb L m)
theorem sp_readsAll {g : GV} {d : Nat} {L : List Nat} {τ : PS} (hc : ∀ i, lc L i < 127) (hl : L.length ≤ 1000) (hL : Lay τ) (hT : TM τ L) :
    CX12_readsAll g (d + 5) [.ref 179] τ (fun v s => RaP L v s ∧ mi s 179 1 = 0 ∧ mi s 179 3 = nI L.length ∧ Ch chRA chSl τ s) := by
  generalize hP : (fun (v : Int32) (s : PS) => RaP L v s ∧ mi s 179 1 = 0 ∧ mi s 179 3 = nI L.length ∧ Ch chRA chSl τ s) = P
  refine vcX12_readsAll hL (fun s1 e1 s3 e3 s5 e5 s7 e7 s9 e9 s11 e11 => ?_)
  have c11 : Ch chRA chSl τ s11 := by
    rw [e11, e9, e7, e5, e3, e1]
    exact ((((((Ch.rf : Ch chRA chSl τ τ).si (by omega)).si (by omega)).si (by omega)).si (by omega)).si (by omega)).si (by omega)
  have x5 : mi s5 179 1 = mi τ 179 1 := by rw [e5, mi_si, if_neg (by omega), e3, mi_si, if_neg (by omega), e1, mi_si, if_neg (by omega)]
  have x3 : mi s11 179 3 = mi τ 179 1 := by rw [e11, mi_si, if_neg (by omega), e9, mi_si, if_neg (by omega), e7, mi_si, if_pos ⟨rfl, rfl⟩, x5]
  have x1 : mi s11 179 1 = 0 := by rw [e11, mi_si, if_neg (by omega), e9, mi_si, if_pos ⟨rfl, rfl⟩]
  have x4 : mi s11 179 4 = nI 0 := by rw [e11, mi_si, if_pos ⟨rfl, rfl⟩]; rfl
  have x21 : mi s11 179 21 = nI 0 := by rw [e11, mi_si, if_neg (by omega), e9, mi_si, if_neg (by omega), e7, mi_si, if_neg (by omega), e5, mi_si, if_pos ⟨rfl, rfl⟩]; rfl
  have x20 : mi s11 179 20 = nI 0 := by rw [e11, mi_si, if_neg (by omega), e9, mi_si, if_neg (by omega), e7, mi_si, if_neg (by omega), e5, mi_si, if_neg (by omega), e3, mi_si, if_pos ⟨rfl, rfl⟩]; rfl
  have x10 : mi s11 179 10 = nI 0 := by rw [e11, mi_si, if_neg (by omega), e9, mi_si, if_neg (by omega), e7, mi_si, if_neg (by omega), e5, mi_si, if_neg (by omega), e3, mi_si, if_neg (by omega), e1, mi_si, if_pos ⟨rfl, rfl⟩]; rfl
  have hX : TX s11 L := hT.tx hl hc x3 (fun i => c11.i (by omega))
  have hL11 := c11.lay hL
  refine Ct.imp (sp_nextToken (d := d + 3) hL11 hX x4 (Nat.zero_le _)) (fun r s13 q => ?_)
  obtain ⟨rfl, r13, c13⟩ := q
  have c13' := c11.trans (c13.mono (Qm := chRA) (Ql := chSl) (fun a k h => by omega) (fun _ _ h => Or.inl ⟨h.1, Or.inl h.2⟩))
  refine ⟨rfl, c13.fr, ?_⟩
  have M13 : MS s13 L 0 n0 0 0 0 := ⟨r13, hX.ch c13 (by omega) (fun i => by omega), ⟨by rw [c13.i (by omega)]; exact x20, by omega, fun k hk => by omega⟩, by rw [c13.i (by omega)]; exact x21, Nat.le_refl _, Nat.zero_le _, by rw [c13.i (by omega)]; exact x10, by omega, c13.lay hL11⟩
  have z1 : mi s13 179 1 = 0 := by rw [c13.i (by omega)]; exact x1
  have z3 : mi s13 179 3 = nI L.length := by rw [c13.i (by omega), x3]; exact hT.1
  have up : ∀ s, Ch chRS chSl s13 s → Ch chRA chSl τ s := fun s c => c13'.trans (c.mono (fun a k h => by omega) (fun _ _ h => h))
  refine ra_loop (d := d) hc (nt L + 1) 0 0 0 0 n0 s13 (by omega) M13 rfl (fun q hq => by omega) (Nat.zero_le _) (fun s T N m j C h1 h2 h3 h4 h5 c => ?_) (fun s e m h1 h2 c => ?_)
  · rw [← hP]
    exact ⟨Or.inl ⟨T, N, m, j, C, h1, rfl, h2, h3, h4, h5⟩, by rw [c.i (by omega)]; exact z1, by rw [c.i (by omega)]; exact z3, up s c⟩
  · rw [← hP]
    exact ⟨Or.inr ⟨e, m, h1, rfl, h2⟩, by rw [c.i (by omega)]; exact z1, by rw [c.i (by omega)]; exact z3, up s c⟩
/-- an E read well names only what is told -/
theorem pe_nm {K : Nat → Nat} {V : Nat → Int32} {sl : Nat → Option Nat} {env : Nat → Int32} {N : Nat} (hK : KN K N) : ∀ (f : Nat) (m : Option (Int32 × Int32 × Int32)) (w i : Nat), i ≤ N → 2 * (N - i) + 1 ≤ f → ∀ v j, pe K V sl env f m w i = .inl (v, j) → ∀ k, i ≤ k → k < j → K k = 3 → sl k ≠ none := by
  intro f
  induction f with
  | zero => intro m w i _ h; omega
  | succ f ih =>
    intro m w i hi hf v j h
    have ok := fun m w i h1 h2 => (pe_ok (V := V) (sl := sl) (env := env) hK f m w i h1 h2).1
    cases m with
    | none =>
      rw [pe_n] at h
      by_cases c1 : ¬ (K i = 2 ∨ K i = 3 ∨ K i = 40)
      · rw [if_pos c1] at h; cases h
      rw [if_neg c1] at h
      have hlt := hK i (by omega)
      by_cases c2 : K i = 3 ∧ sl i = none
      · rw [if_pos c2] at h; cases h
      rw [if_neg c2] at h
      by_cases c3 : 5 ≤ w
      · rw [if_pos c3] at h; cases h
      rw [if_neg c3] at h
      by_cases c4 : K i = 2
      · rw [if_pos c4] at h
        cases h
        intro k h1 h2 h3
        have : k = i := by omega
        subst this
        omega
      rw [if_neg c4] at h
      by_cases c5 : K i = 3
      · rw [if_pos c5] at h
        cases h
        intro k h1 h2 h3
        have : k = i := by omega
        subst this
        exact fun q => c2 ⟨c5, q⟩
      rw [if_neg c5] at h
      obtain ⟨u, m, h1, h2⟩ := bnd_inl h
      obtain ⟨u', m', h3, h4⟩ := bnd_inl h1
      obtain ⟨a1, a2, a3⟩ := ok none (w + 1) (i + 1) (by omega) (by omega) u' m' h3
      have a4 := a3 rfl
      obtain ⟨b1, b2, -⟩ := ok (some (0, 1, u')) (w + 1) m' a2 (by omega) u m h4
      by_cases c6 : K m = 41
      · rw [if_pos c6] at h2
        cases h2
        intro k g1 g2 g3
        by_cases q1 : k = i
        · subst q1; omega
        by_cases q2 : k < m'
        · exact ih none (w + 1) (i + 1) (by omega) (by omega) u' m' h3 k (by omega) q2 g3
        by_cases q3 : k < m
        · exact ih (some (0, 1, u')) (w + 1) m' a2 (by omega) _ m h4 k (by omega) q3 g3
        have : k = m := by omega
        subst this
        omega
      · rw [if_neg c6] at h2; cases h2
    | some a =>
      rw [pe_s] at h
      have go : ∀ (g : Int32 → Int32 × Int32 × Int32), K i ≠ 0 → K i ≠ 3 → bnd (pe K V sl env f none w (i + 1)) (fun v j => pe K V sl env f (some (g v)) w j) = .inl (v, j) → ∀ k, i ≤ k → k < j → K k = 3 → sl k ≠ none := by
        intro g hne h3 hb k g1 g2 g3
        have hlt := hK i hne
        obtain ⟨u, m, h1, h2⟩ := bnd_inl hb
        obtain ⟨a1, a2, a3⟩ := ok none w (i + 1) (by omega) (by omega) u m h1
        have a4 := a3 rfl
        by_cases q1 : k = i
        · subst q1; exact absurd g3 h3
        by_cases q2 : k < m
        · exact ih none w (i + 1) (by omega) (by omega) u m h1 k (by omega) q2 g3
        · exact ih (some (g u)) w m a2 (by omega) v j h2 k (by omega) g2 g3
      by_cases c1 : K i = 42
      · rw [if_pos c1] at h
        exact go (fun v => (a.1, a.2.1, a.2.2 * v)) (by omega) (by omega) h
      rw [if_neg c1] at h
      by_cases c2 : K i = 43 ∨ K i = 45
      · rw [if_pos c2] at h
        exact go (fun v => (a.1 + a.2.1 * a.2.2, (if K i = 43 then 1 else -1), v)) (by omega) (by omega) h
      rw [if_neg c2] at h
      cases h
      intro k g1 g2
      omega
/-- so its codes are those of all the names -/
theorem cd_ext {L : List Nat} {told T i j : Nat} {nm NM : Nat → Nat} {env : Nat → Int32} {v : Int32} (hi : i ≤ nt L) (hx : Ext told nm T NM) (h : smL L told nm env i = .inl (v, j)) : ∀ k, i ≤ k → k < j → cd L told nm k = cd L T NM k := by
  intro k h1 h2
  unfold smL sm at h
  obtain ⟨u, m, q1, q2⟩ := bnd_inl h
  obtain ⟨a1, a2, a3⟩ := (pe_ok (V := tV L) (sl := fun i => slt nm told (tC L i)) (env := env) (tK_N L) (fu L) none 0 i hi (by unfold fu; omega)).1 u m q1
  have hs : tK L k = 3 → slt nm told (tC L k) ≠ none := by
    intro h3
    by_cases q : k < m
    · exact pe_nm (tK_N L) (fu L) none 0 i hi (by unfold fu; omega) u m q1 k h1 q h3
    · exact pe_nm (tK_N L) (fu L) (some (0, 1, u)) 0 m a2 (by unfold fu; omega) v j q2 k (by omega) h2 h3
  unfold cd
  by_cases c1 : tK L k = 2
  · rw [if_pos c1, if_pos c1]
  rw [if_neg c1, if_neg c1]
  by_cases c2 : tK L k = 3
  · rw [if_pos c2, if_pos c2]
    obtain ⟨z, hz⟩ := Option.ne_none_iff_exists'.mp (hs c2)
    rw [hz, hx _ _ hz]
  · rw [if_neg c2, if_neg c2]
theorem LineOK.ext {s : PS} {L : List Nat} {told T l i j C : Nat} {nm NM : Nat → Nat} {env : Nat → Int32} {v : Int32} (h : LineOK s L told nm l i j C) (hi : i ≤ nt L) (hx : Ext told nm T NM) (hs : smL L told nm env i = .inl (v, j)) : LineOK s L T NM l i j C := by
  obtain ⟨c, a1, a2, a3, a4⟩ := h
  exact ⟨c, a1, a2, a3, fun k h1 h2 => by rw [← cd_ext hi hx hs k h1 h2]; exact a4 k h1 h2⟩
