/-! ===== names; a STEP's E; the class's readNewName, tellName, isOnField ===== -/
def tellT (nm : Nat → Nat) (told c : Nat) : Nat := match slt nm told c with
  | some _ => told
  | none => told + 1
def tellN (nm : Nat → Nat) (told c : Nat) : Nat → Nat := match slt nm told c with
  | some _ => nm
  | none => fun k => if k = told then c else nm k
theorem tell_some {nm : Nat → Nat} {told c k : Nat} (h : slt nm told c = some k) : tellT nm told c = told ∧ tellN nm told c = nm := by unfold tellT tellN; rw [h]; exact ⟨rfl, rfl⟩
theorem tell_none {nm : Nat → Nat} {told c : Nat} (h : slt nm told c = none) : tellT nm told c = told + 1 ∧ tellN nm told c = fun k => if k = told then c else nm k := by unfold tellT tellN; rw [h]; exact ⟨rfl, rfl⟩
theorem slt_lt {nm : Nat → Nat} {told c k : Nat} (h : slt nm told c = some k) : k < told ∧ nm k = c := ⟨fnd_lt h, by simpa using (fnd_some h).2.1⟩
/-- the slot that a name has when it is told -/
theorem tell_slot {nm : Nat → Nat} {told c : Nat} : slt (tellN nm told c) (tellT nm told c) c = some ((slt nm told c).getD told) := by
  cases h : slt nm told c with
  | some k => rw [(tell_some h).1, (tell_some h).2, h]; rfl
  | none =>
    rw [(tell_none h).1, (tell_none h).2]
    refine fnd_is (by show told < told + 1; omega) (by simp) (fun j hj => ?_)
    have hj' : j < told := hj
    have := fnd_none h j hj'
    simpa [show j ≠ told by omega] using this
/-- what has a slot keeps it -/
theorem slt_keep {nm : Nat → Nat} {told c c' k : Nat} (h : slt nm told c' = some k) : slt (tellN nm told c) (tellT nm told c) c' = some k := by
  cases h2 : slt nm told c with
  | some j => rw [(tell_some h2).1, (tell_some h2).2]; exact h
  | none =>
    rw [(tell_none h2).1, (tell_none h2).2]
    obtain ⟨a, b, e⟩ := fnd_some h
    refine fnd_is (by omega) ?_ (fun j hj => ?_)
    · simpa [show k ≠ told by omega] using b
    · have := e j hj
      simpa [show j ≠ told by omega] using this
/-- whether a new NAME can stand at token i: its FAULT, or none -/
def nnF (L : List Nat) (told : Nat) (nm : Nat → Nat) (i : Nat) : Option Nat := if ¬ tK L i = 3 then some 1 else if slt nm told (tC L i) = none ∧ told = 8 then some 5 else none
abbrev ER4 := ((Int32 × Int32 × Int32 × Int32) × Nat) ⊕ (Nat × Nat)
def bd4 (r : ER) (c : Int32 → Nat → ER4) : ER4 := match r with
  | .inr e => .inr e
  | .inl p => c p.1 p.2
theorem bd4_l (v : Int32) (j : Nat) (c : Int32 → Nat → ER4) : bd4 (.inl (v, j)) c = c v j := rfl
theorem bd4_r (e : Nat × Nat) (c : Int32 → Nat → ER4) : bd4 (.inr e) c = .inr e := rfl
/-- the E of the STEP at token i: x, y, wide, high -/
def stF (L : List Nat) (told : Nat) (nm : Nat → Nat) (env : Nat → Int32) (i : Nat) : ER4 :=
  if ¬ (tK L i = 4 ∨ tK L i = 5 ∨ tK L i = 6) then .inr (1, i) else
  bd4 (smL L told nm env (i + 1)) (fun x j => bd4 (smL L told nm env j) (fun y j2 => if tK L i = 5 then bd4 (smL L told nm env j2) (fun w j3 => bd4 (smL L told nm env j3) (fun h j4 => .inl ((x, y, w, h), j4))) else .inl ((x, y, 1, 1), j2)))
theorem sp_readNewName {g : GV} {d told i : Nat} {L : List Nat} {nm : Nat → Nat} {τ : PS} (hc : ∀ i, lc L i < 127) (hi : i ≤ nt L) (hL : Lay τ) (hR : RS τ L told nm) (hat : mi τ 16 5 = nI i) (h0 : mi τ 16 6 = 0) :
    CX7_readNewName g (d + 1) [.ref 16] τ (fun s => ((nnF L told nm i = none ∧ mi s 16 5 = nI (i + 1) ∧ mi s 16 6 = 0) ∨ ∃ k, nnF L told nm i = some k ∧ mi s 16 6 = nI (k + 16 * tb L i) ∧ 1 ≤ k ∧ k ≤ 5) ∧ Ch chAF noL τ s) := by
  have hl := hR.2.2.1
  have hn := nt_le (L := L)
  have hk : tK L i < 1000 := tk_lt (σ := τ) hc (tb L i)
  have h8 := hR.2.2.2.2.1
  have hsl : ∀ k, slt nm told (tC L i) = some k → k < 9 := fun k hk => by have := (slt_lt hk).1; omega
  refine vcX7_readNewName hL hR.1 ⟨fun _ => ?_, fun h => absurd h0 h⟩
  refine Ct.imp (sp_kind7 hL hR hat hi) (fun r s q => ?_)
  obtain ⟨v, rfl, rfl, rfl⟩ := q
  refine ⟨_, rfl, Fr.rf, ?_⟩
  rw [lit32 3, zEQ (by omega) (by omega), hat]
  unfold nnF
  have adv : ∀ s5 : PS, s5 = si s 16 5 (nI i + 1) → mi s5 16 5 = nI (i + 1) ∧ mi s5 16 6 = 0 ∧ Ch chAF noL s s5 := by
    intro s5 e5
    rw [inc rfl] at e5
    exact ⟨by rw [e5, mi_si, if_pos ⟨rfl, rfl⟩], by rw [e5, mi_si, if_neg (by omega)]; exact h0, by rw [e5]; exact Ch.rf.si ⟨rfl, Or.inl rfl⟩⟩
  refine ⟨fun h3 => ?_, fun h3 => ?_⟩
  · rw [if_neg (fun h => h h3)]
    have hW := tk_word (L := L) (b := tb L i) (by change tk L (tb L i) = 3 at h3; omega)
    refine Ct.imp (sp_slotOf hL hR (tK_N L i (by omega)) hW) (fun r s q => ?_)
    obtain ⟨v4, rfl, rfl, rfl⟩ := q
    refine ⟨_, rfl, Fr.rf, ?_⟩
    rw [oI_m1 hsl (by omega), hat, hR.2.2.2.1, lit32 8, zEQ (by omega) (by omega)]
    refine ⟨fun hs s5 e5 => ?_, fun hs => ⟨fun hne s7 e7 => ?_, fun he => ?_⟩⟩
    · obtain ⟨a1, a2, a3⟩ := adv s5 e5
      rw [if_neg (fun h => hs h.1)]
      exact ⟨Or.inl ⟨rfl, a1, a2⟩, a3⟩
    · obtain ⟨a1, a2, a3⟩ := adv s7 e7
      rw [if_neg (fun h => hne h.2)]
      exact ⟨Or.inl ⟨rfl, a1, a2⟩, a3⟩
    · rw [if_pos ⟨hs, he⟩]
      refine Ct.imp (sp_fail7 (k := 5) hL hR hi h0) (fun r s9 q => ?_)
      obtain ⟨rfl, k1, k2⟩ := q
      exact ⟨rfl, k2.fr, Or.inr ⟨5, rfl, k1, by omega, by omega⟩, k2⟩
  · rw [if_pos h3]
    refine Ct.imp (sp_fail7 (k := 1) hL hR hi h0) (fun r s9 q => ?_)
    obtain ⟨rfl, k1, k2⟩ := q
    exact ⟨rfl, k2.fr, Or.inr ⟨1, rfl, k1, by omega, by omega⟩, k2⟩
theorem sp_readNewNamef {g : GV} {d : Nat} {τ : PS} (hL : Lay τ) (hT : mr τ 16 4 = some 11) (h0 : ¬ mi τ 16 6 = 0) : CX7_readNewName g (d + 1) [.ref 16] τ (fun s => s = τ) := vcX7_readNewName hL hT ⟨fun h => absurd h h0, fun _ => rfl⟩
theorem sp_tellName {g : GV} {d told i : Nat} {L : List Nat} {nm : Nat → Nat} {τ : PS} (hi : i < nt L) (hL : Lay τ) (hR : RS τ L told nm) (hw : isW L (tb L i)) (hok : ¬ (slt nm told (tC L i) = none ∧ told = 8)) :
    CX7_tellName g (d + 1) [.ref 16, .int (nI i)] τ (fun v s => v = nI ((slt nm told (tC L i)).getD told) ∧ (slt nm told (tC L i)).getD told < tellT nm told (tC L i) ∧ RS s L (tellT nm told (tC L i)) (tellN nm told (tC L i)) ∧ Ch (fun a k => a = 16 ∧ k = 3) (fun a _ => a = 18) τ s) := by
  obtain ⟨r1, r2, r3, r4, r5, r6⟩ := id hR
  have hn := nt_le (L := L)
  have hsl : ∀ k, slt nm told (tC L i) = some k → k < 9 := fun k hk => by have := (slt_lt hk).1; omega
  refine vcX7_tellName hL r1 _ (Ct.imp (sp_slotOf hL hR hi hw) (fun r s q => ?_))
  obtain ⟨v, rfl, rfl, rfl⟩ := q
  refine ⟨_, rfl, Fr.rf, ?_⟩
  rw [oI_m1 hsl (by omega), r4, lit32 8, zLT (by omega) (by omega)]
  refine ⟨fun hs => ?_, fun hs => ⟨fun hlt => ?_, fun hlt => ?_⟩⟩
  · obtain ⟨k, hk⟩ := Option.ne_none_iff_exists'.mp hs
    have hkt := (slt_lt hk).1
    rw [(tell_some hk).1, (tell_some hk).2, hk]
    refine ⟨?_, hkt, hR, Ch.rf⟩
    show jmax (nI k) (nI 0) = nI k
    rw [zMAX (by omega) (by omega), Nat.max_eq_left (Nat.zero_le _)]
  · rw [(tell_none hs).1, (tell_none hs).2, hs, zIN (by omega) (by omega), zIN (by omega) (by omega), zCL (by omega), zCL (by omega)]
    refine ⟨by omega, by omega, fun s5 e5 s7 e7 => ?_⟩
    have v5 : mi s5 16 3 = nI told := by rw [e5]; exact r4
    rw [v5, inc rfl] at e7
    have v7 : mi s7 16 3 = nI (told + 1) := by rw [e7, mi_si, if_pos ⟨rfl, rfl⟩]
    have c7 : Ch (fun a k => a = 16 ∧ k = 3) (fun a _ => a = 18) s s7 := by rw [e7, e5]; exact ((Ch.rf : Ch (fun a k => a = 16 ∧ k = 3) (fun a _ => a = 18) s s).sj rfl).si ⟨rfl, rfl⟩
    refine ⟨?_, by show told < told + 1; omega, ⟨by rw [c7.1.2]; exact r1, r2.ch c7 (by omega) (fun i => by omega) (fun i => by omega) (fun i => by omega), r3, v7, by omega, fun k hk => ?_⟩, c7⟩
    · rw [v7, lit32 1, pk_sub (by omega), Nat.add_sub_cancel]
      rfl
    · by_cases q : k = told
      · subst q
        exact ⟨tb L i, hw, by rw [e7, ml_si, e5, ml_sj, if_pos ⟨rfl, rfl⟩]; exact r2.2.2 i hi, by show _ = if k = k then _ else _; rw [if_pos rfl]⟩
      · obtain ⟨b, b1, b2, b3⟩ := r6 k (by omega)
        exact ⟨b, b1, by rw [e7, ml_si, e5, ml_sj, if_neg (by omega)]; exact b2, by show _ = if k = told then _ else _; rw [if_neg q]; exact b3⟩
  · exact absurd ⟨hs, by omega⟩ hok
/-- x squares from a on, all on the field -/
def onF (a b : Int32) : Prop := ∃ x w : Nat, a = nI x ∧ b = nI w ∧ 1 ≤ w ∧ x + w ≤ 16
theorem sp_isOnField {g : GV} {d : Nat} {a b : Int32} {σ : PS} (hL : Lay σ) (hT : mr σ 16 4 = some 11) : CX7_isOnField g d [.int a, .int b] σ (fun v s => ((v = 1 ∧ onF a b) ∨ (v = 0 ∧ ¬ onF a b)) ∧ s = σ) := by
  refine vcX7_isOnField hL hT _ _ ⟨fun h => ⟨Or.inr ⟨rfl, fun q => ?_⟩, rfl⟩, fun h => ⟨fun h2 => ⟨Or.inr ⟨rfl, fun q => ?_⟩, rfl⟩, fun h2 => ?_⟩⟩
  · obtain ⟨x, w, rfl, rfl, h1, h3⟩ := q
    rw [lit32 0, zLT (by omega) (by omega)] at h
    omega
  · obtain ⟨x, w, rfl, rfl, h1, h3⟩ := q
    rw [lit32 16, zLE (by omega) (by omega)] at h2
    omega
  · obtain ⟨x, hx, rfl⟩ := zNEG (n := 16) (by omega) h h2
    rw [lit32 16, pk_sub (by omega)]
    refine ⟨fun h3 => ⟨Or.inr ⟨rfl, fun q => ?_⟩, rfl⟩, fun h3 => ⟨fun h4 => ⟨Or.inr ⟨rfl, fun q => ?_⟩, rfl⟩, fun h4 => ?_⟩⟩
    · obtain ⟨x', w, e1, rfl, h1, h5⟩ := q
      rw [lit32 1, zLT (by omega) (by omega)] at h3
      omega
    · obtain ⟨x', w, e1, rfl, h1, h5⟩ := q
      rw [zEQ (by omega) (by omega)] at e1
      subst e1
      rw [zLT (by omega) (by omega)] at h4
      omega
    · obtain ⟨w, w1, w2, rfl⟩ := wBt (lo := 1) (hi := 16 - x) (by omega) (by omega) h3 h4
      exact ⟨Or.inl ⟨rfl, x, w, rfl, rfl, w1, by omega⟩, rfl⟩
