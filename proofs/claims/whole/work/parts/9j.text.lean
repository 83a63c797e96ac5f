/-! ===== a text: its FAULTS of tokens alone, then what it does (numbers alone) ===== -/
/-- what comes of a part or sum does not hang on what the names are worth -/
def SameR (r r' : ER) : Prop := (∃ v v' j, r = .inl (v, j) ∧ r' = .inl (v', j)) ∨ ∃ e, r = .inr e ∧ r' = .inr e
theorem pe_env {K : Nat → Nat} {V : Nat → Int32} {sl : Nat → Option Nat} {env env' : Nat → Int32} : ∀ (f : Nat) (w i : Nat), SameR (pe K V sl env f none w i) (pe K V sl env' f none w i) ∧ ∀ a a', SameR (pe K V sl env f (some a) w i) (pe K V sl env' f (some a') w i) := by
  intro f
  induction f with
  | zero => exact fun w i => ⟨Or.inr ⟨_, rfl, rfl⟩, fun a a' => Or.inr ⟨_, rfl, rfl⟩⟩
  | succ f ih =>
    intro w i
    constructor
    · rw [pe_n, pe_n]
      by_cases c1 : ¬ (K i = 2 ∨ K i = 3 ∨ K i = 40)
      · rw [if_pos c1, if_pos c1]; exact Or.inr ⟨_, rfl, rfl⟩
      rw [if_neg c1, if_neg c1]
      by_cases c2 : K i = 3 ∧ sl i = none
      · rw [if_pos c2, if_pos c2]; exact Or.inr ⟨_, rfl, rfl⟩
      rw [if_neg c2, if_neg c2]
      by_cases c3 : 5 ≤ w
      · rw [if_pos c3, if_pos c3]; exact Or.inr ⟨_, rfl, rfl⟩
      rw [if_neg c3, if_neg c3]
      by_cases c4 : K i = 2
      · rw [if_pos c4, if_pos c4]; exact Or.inl ⟨_, _, _, rfl, rfl⟩
      rw [if_neg c4, if_neg c4]
      by_cases c5 : K i = 3
      · rw [if_pos c5, if_pos c5]; exact Or.inl ⟨_, _, _, rfl, rfl⟩
      rw [if_neg c5, if_neg c5]
      rcases (ih (w + 1) (i + 1)).1 with ⟨v, v', j, e1, e2⟩ | ⟨e, e1, e2⟩
      · rw [e1, e2, bnd_l, bnd_l]
        rcases (ih (w + 1) j).2 (0, 1, v) (0, 1, v') with ⟨u, u', k, e3, e4⟩ | ⟨e, e3, e4⟩
        · rw [e3, e4, bnd_l, bnd_l]
          by_cases c6 : K k = 41
          · rw [if_pos c6, if_pos c6]; exact Or.inl ⟨_, _, _, rfl, rfl⟩
          · rw [if_neg c6, if_neg c6]; exact Or.inr ⟨_, rfl, rfl⟩
        · rw [e3, e4]; exact Or.inr ⟨_, rfl, rfl⟩
      · rw [e1, e2]; exact Or.inr ⟨_, rfl, rfl⟩
    · intro a a'
      rw [pe_s, pe_s]
      have go : ∀ (g g' : Int32 → Int32 × Int32 × Int32), SameR (bnd (pe K V sl env f none w (i + 1)) (fun v j => pe K V sl env f (some (g v)) w j)) (bnd (pe K V sl env' f none w (i + 1)) (fun v j => pe K V sl env' f (some (g' v)) w j)) := by
        intro g g'
        rcases (ih w (i + 1)).1 with ⟨v, v', j, e1, e2⟩ | ⟨e, e1, e2⟩
        · rw [e1, e2, bnd_l, bnd_l]
          exact (ih w j).2 _ _
        · rw [e1, e2]; exact Or.inr ⟨_, rfl, rfl⟩
      by_cases c1 : K i = 42
      · rw [if_pos c1, if_pos c1]
        exact go (fun v => (a.1, a.2.1, a.2.2 * v)) (fun v => (a'.1, a'.2.1, a'.2.2 * v))
      rw [if_neg c1, if_neg c1]
      by_cases c2 : K i = 43 ∨ K i = 45
      · rw [if_pos c2, if_pos c2]
        exact go (fun v => (a.1 + a.2.1 * a.2.2, (if K i = 43 then 1 else -1), v)) (fun v => (a'.1 + a'.2.1 * a'.2.2, (if K i = 43 then 1 else -1), v))
      rw [if_neg c2, if_neg c2]
      exact Or.inl ⟨_, _, _, rfl, rfl⟩
/-- more names told: what could be worked stays so -/
theorem pe_ext {K : Nat → Nat} {V : Nat → Int32} {sl sl' : Nat → Option Nat} {env : Nat → Int32} (hs : ∀ i k, sl i = some k → sl' i = some k) : ∀ (f : Nat) (m : Option (Int32 × Int32 × Int32)) (w i : Nat) (p : Int32 × Nat), pe K V sl env f m w i = .inl p → pe K V sl' env f m w i = .inl p := by
  intro f
  induction f with
  | zero => intro m w i p h; cases h
  | succ f ih =>
    intro m w i p h
    cases m with
    | none =>
      rw [pe_n] at h ⊢
      by_cases c1 : ¬ (K i = 2 ∨ K i = 3 ∨ K i = 40)
      · rw [if_pos c1] at h; cases h
      rw [if_neg c1] at h ⊢
      by_cases c2 : K i = 3 ∧ sl i = none
      · rw [if_pos c2] at h; cases h
      rw [if_neg c2] at h
      have c2' : ¬ (K i = 3 ∧ sl' i = none) := by
        rintro ⟨q1, q2⟩
        cases e : sl i with
        | none => exact c2 ⟨q1, e⟩
        | some k => rw [hs i k e] at q2; cases q2
      rw [if_neg c2']
      by_cases c3 : 5 ≤ w
      · rw [if_pos c3] at h; cases h
      rw [if_neg c3] at h ⊢
      by_cases c4 : K i = 2
      · rw [if_pos c4] at h ⊢; exact h
      rw [if_neg c4] at h ⊢
      by_cases c5 : K i = 3
      · rw [if_pos c5] at h ⊢
        cases e : sl i with
        | none => exact absurd ⟨c5, e⟩ c2
        | some k => rw [hs i k e]; rw [e] at h; exact h
      rw [if_neg c5] at h ⊢
      cases p with
      | mk v j =>
        obtain ⟨u, k, h1, h2⟩ := bnd_inl h
        obtain ⟨u', k', h3, h4⟩ := bnd_inl h1
        rw [ih _ _ _ _ h3, bnd_l, ih _ _ _ _ h4, bnd_l]
        exact h2
    | some a =>
      rw [pe_s] at h ⊢
      cases p with
      | mk v j =>
        by_cases c1 : K i = 42
        · rw [if_pos c1] at h ⊢
          obtain ⟨u, k, h1, h2⟩ := bnd_inl h
          rw [ih _ _ _ _ h1, bnd_l]
          exact ih _ _ _ _ h2
        rw [if_neg c1] at h ⊢
        by_cases c2 : K i = 43 ∨ K i = 45
        · rw [if_pos c2] at h ⊢
          obtain ⟨u, k, h1, h2⟩ := bnd_inl h
          rw [ih _ _ _ _ h1, bnd_l]
          exact ih _ _ _ _ h2
        rw [if_neg c2] at h ⊢
        exact h
/-- the names of a are among those of b, at the same places -/
def Ext (told : Nat) (nm : Nat → Nat) (T : Nat) (NM : Nat → Nat) : Prop := ∀ c k, slt nm told c = some k → slt NM T c = some k
theorem Ext.rf {told : Nat} {nm : Nat → Nat} : Ext told nm told nm := fun _ _ h => h
theorem Ext.tell {told T : Nat} {nm NM : Nat → Nat} {c : Nat} (h : Ext (tellT nm told c) (tellN nm told c) T NM) : Ext told nm T NM := fun c' k e => h c' k (slt_keep e)
abbrev e0 : Nat → Int32 := fun _ => 0
theorem sm_env {L : List Nat} {told i : Nat} {nm : Nat → Nat} {env env' : Nat → Int32} : SameR (smL L told nm env i) (smL L told nm env' i) := by
  unfold smL sm
  rcases (pe_env (K := tK L) (V := tV L) (sl := fun i => slt nm told (tC L i)) (env := env) (env' := env') (fu L) 0 i).1 with ⟨v, v', j, e1, e2⟩ | ⟨e, e1, e2⟩
  · rw [e1, e2, bnd_l, bnd_l]
    exact (pe_env (fu L) 0 j).2 _ _
  · rw [e1, e2, bnd_r, bnd_r]
    exact Or.inr ⟨_, rfl, rfl⟩
theorem sm_ext {L : List Nat} {told T i : Nat} {nm NM : Nat → Nat} {env : Nat → Int32} {p : Int32 × Nat} (hx : Ext told nm T NM) (h : smL L told nm env i = .inl p) : smL L T NM env i = .inl p := by
  unfold smL sm at h ⊢
  cases p with
  | mk v j =>
    obtain ⟨u, k, h1, h2⟩ := bnd_inl h
    have hs : ∀ i k, (fun i => slt nm told (tC L i)) i = some k → (fun i => slt NM T (tC L i)) i = some k := fun i k e => hx _ _ e
    rw [pe_ext hs _ _ _ _ _ h1, bnd_l]
    exact pe_ext hs _ _ _ _ _ h2
/-- an E that has no FAULT with the names told so far, worked later: it ends at the same place -/
theorem sm_late {L : List Nat} {told T i j : Nat} {nm NM : Nat → Nat} {env : Nat → Int32} {v : Int32} (hx : Ext told nm T NM) (h : smL L told nm e0 i = .inl (v, j)) : ∃ v', smL L T NM env i = .inl (v', j) := by
  have h2 := sm_ext hx h
  rcases sm_env (L := L) (told := T) (nm := NM) (i := i) (env := e0) (env' := env) with ⟨u, u', k, e1, e2⟩ | ⟨e, e1, e2⟩
  · rw [h2] at e1
    cases e1
    exact ⟨u', e2⟩
  · rw [h2] at e1; cases e1
def SameR4 (r r' : ER4) : Prop := (∃ v v' j, r = .inl (v, j) ∧ r' = .inl (v', j)) ∨ ∃ e, r = .inr e ∧ r' = .inr e
theorem st_env {L : List Nat} {told i : Nat} {nm : Nat → Nat} {env env' : Nat → Int32} : SameR4 (stF L told nm env i) (stF L told nm env' i) := by
  unfold stF
  by_cases c1 : ¬ (tK L i = 4 ∨ tK L i = 5 ∨ tK L i = 6)
  · rw [if_pos c1, if_pos c1]; exact Or.inr ⟨_, rfl, rfl⟩
  rw [if_neg c1, if_neg c1]
  rcases sm_env (L := L) (told := told) (nm := nm) (i := i + 1) (env := env) (env' := env') with ⟨v, v', j, e1, e2⟩ | ⟨e, e1, e2⟩
  · rw [e1, e2, bd4_l, bd4_l]
    rcases sm_env (L := L) (told := told) (nm := nm) (i := j) (env := env) (env' := env') with ⟨u, u', k, e3, e4⟩ | ⟨e, e3, e4⟩
    · rw [e3, e4, bd4_l, bd4_l]
      by_cases c2 : tK L i = 5
      · rw [if_pos c2, if_pos c2]
        rcases sm_env (L := L) (told := told) (nm := nm) (i := k) (env := env) (env' := env') with ⟨w, w', m, e5, e6⟩ | ⟨e, e5, e6⟩
        · rw [e5, e6, bd4_l, bd4_l]
          rcases sm_env (L := L) (told := told) (nm := nm) (i := m) (env := env) (env' := env') with ⟨z, z', q, e7, e8⟩ | ⟨e, e7, e8⟩
          · rw [e7, e8, bd4_l, bd4_l]; exact Or.inl ⟨_, _, _, rfl, rfl⟩
          · rw [e7, e8, bd4_r, bd4_r]; exact Or.inr ⟨_, rfl, rfl⟩
        · rw [e5, e6, bd4_r, bd4_r]; exact Or.inr ⟨_, rfl, rfl⟩
      · rw [if_neg c2, if_neg c2]; exact Or.inl ⟨_, _, _, rfl, rfl⟩
    · rw [e3, e4, bd4_r, bd4_r]; exact Or.inr ⟨_, rfl, rfl⟩
  · rw [e1, e2, bd4_r, bd4_r]; exact Or.inr ⟨_, rfl, rfl⟩
theorem st_ext {L : List Nat} {told T i : Nat} {nm NM : Nat → Nat} {env : Nat → Int32} {p : (Int32 × Int32 × Int32 × Int32) × Nat} (hx : Ext told nm T NM) (h : stF L told nm env i = .inl p) : stF L T NM env i = .inl p := by
  unfold stF at h ⊢
  by_cases c1 : ¬ (tK L i = 4 ∨ tK L i = 5 ∨ tK L i = 6)
  · rw [if_pos c1] at h; cases h
  rw [if_neg c1] at h ⊢
  obtain ⟨u, k, h1, h2⟩ := bd4_inl h
  obtain ⟨u2, k2, h3, h4⟩ := bd4_inl h2
  rw [sm_ext hx h1, bd4_l, sm_ext hx h3, bd4_l]
  by_cases c2 : tK L i = 5
  · rw [if_pos c2] at h4 ⊢
    obtain ⟨u3, k3, h5, h6⟩ := bd4_inl h4
    obtain ⟨u4, k4, h7, h8⟩ := bd4_inl h6
    rw [sm_ext hx h5, bd4_l, sm_ext hx h7, bd4_l]
    exact h8
  · rw [if_neg c2] at h4 ⊢
    exact h4
theorem st_late {L : List Nat} {told T i j : Nat} {nm NM : Nat → Nat} {env : Nat → Int32} {q : Int32 × Int32 × Int32 × Int32} (hx : Ext told nm T NM) (h : stF L told nm e0 i = .inl (q, j)) : ∃ q', stF L T NM env i = .inl (q', j) := by
  have h2 := st_ext hx h
  rcases st_env (L := L) (told := T) (nm := NM) (i := i) (env := e0) (env' := env) with ⟨u, u', k, e1, e2⟩ | ⟨e, e1, e2⟩
  · rw [h2] at e1
    cases e1
    exact ⟨u', e2⟩
  · rw [h2] at e1; cases e1
/-! the first pass -/
abbrev SR := (Nat × (Nat → Nat) × Nat) ⊕ (Nat × Nat)
def bdS (r : ER) (c : Nat → SR) : SR := match r with
  | .inr e => .inr e
  | .inl p => c p.2
def bd4S (r : ER4) (c : Nat → SR) : SR := match r with
  | .inr e => .inr e
  | .inl p => c p.2
def nnS (o : Option Nat) (i : Nat) (r : SR) : SR := match o with
  | some k => .inr (k, i)
  | none => r
def semi (L : List Nat) (told : Nat) (nm : Nat → Nat) (j : Nat) : SR := if tK L j = 59 then .inl (told, nm, j + 1) else .inr (1, j)
/-- one statement: what is told behind it and where it ends, or its FAULT -/
def st1 (L : List Nat) (told : Nat) (nm : Nat → Nat) (i : Nat) : SR :=
  if tK L i = 7 then nnS (nnF L told nm (i + 1)) (i + 1) (bdS (smL L told nm e0 (i + 2)) (fun j => semi L (tellT nm told (tC L (i + 1))) (tellN nm told (tC L (i + 1))) j))
  else if tK L i = 8 then nnS (nnF L told nm (i + 1)) (i + 1) (bdS (smL L told nm e0 (i + 2)) (fun j => bdS (smL L told nm e0 j) (fun j2 => bd4S (stF L (tellT nm told (tC L (i + 1))) (tellN nm told (tC L (i + 1))) e0 j2) (fun j3 => semi L (tellT nm told (tC L (i + 1))) (tellN nm told (tC L (i + 1))) j3))))
  else bd4S (stF L told nm e0 i) (fun j => semi L told nm j)
abbrev NR := (Nat × (Nat → Nat)) ⊕ (Nat × Nat)
def bdN (r : SR) (c : Nat → (Nat → Nat) → Nat → NR) : NR := match r with
  | .inr e => .inr e
  | .inl p => c p.1 p.2.1 p.2.2
def p1 (L : List Nat) : Nat → Nat → (Nat → Nat) → Nat → NR
  | 0, _, _, i => .inr (0, i)
  | f + 1, told, nm, i => if tK L i = 0 then .inl (told, nm) else bdN (st1 L told nm i) (fun t n j => p1 L f t n j)
theorem p1_s (L : List Nat) (f told : Nat) (nm : Nat → Nat) (i : Nat) : p1 L (f + 1) told nm i = if tK L i = 0 then .inl (told, nm) else bdN (st1 L told nm i) (fun t n j => p1 L f t n j) := rfl
/-! the second pass -/
def onB (a b : Int32) : Bool := decide (0 ≤ a) && decide (a < 16) && decide (1 ≤ b) && decide (b ≤ 16 - a)
theorem onB_is {a b : Int32} : onB a b = true ↔ onF a b := by
  unfold onB onF
  simp only [Bool.and_eq_true, decide_eq_true_eq]
  constructor
  · rintro ⟨⟨⟨h1, h2⟩, h3⟩, h4⟩
    obtain ⟨x, hx, rfl⟩ := zNEG (n := 16) (by omega) (Int32.not_lt.mpr h1) (Int32.not_le.mpr h2)
    rw [lit32 16, pk_sub (by omega)] at h4
    obtain ⟨w, w1, w2, rfl⟩ := wBt (lo := 1) (hi := 16 - x) (by omega) (by omega) (Int32.not_lt.mpr h3) (Int32.not_lt.mpr h4)
    exact ⟨x, w, rfl, rfl, w1, by omega⟩
  · rintro ⟨x, w, rfl, rfl, h1, h2⟩
    rw [lit32 0, lit32 16, lit32 1, pk_sub (by omega), zLE (by omega) (by omega), zLT (by omega) (by omega), zLE (by omega) (by omega), zLE (by omega) (by omega)]
    omega
/-- a STEP done: the rows behind it, or its FAULT -/
def doF (rw' : Nat → Nat) (K : Nat) (q : Int32 × Int32 × Int32 × Int32) : (Nat → Nat) ⊕ Nat :=
  if onB q.1 q.2.2.1 = true ∧ onB q.2.1 q.2.2.2 = true then
    (if K = 6 then (if grd rw' (16 * q.2.1.toNatClampNeg + q.1.toNatClampNeg) = true then .inl (rwDel rw' q.1.toNatClampNeg q.2.1.toNatClampNeg) else .inr 6)
    else if cnt (grd (rwPut rw' q.1.toNatClampNeg q.2.1.toNatClampNeg q.2.2.1.toNatClampNeg q.2.2.2.toNatClampNeg)) 256 ≤ 10 then .inl (rwPut rw' q.1.toNatClampNeg q.2.1.toNatClampNeg q.2.2.1.toNatClampNeg q.2.2.2.toNatClampNeg) else .inr 7)
  else .inr 4
theorem doF_ok {rw' r2 : Nat → Nat} {K : Nat} {x y w h : Int32} (hd : DoOK rw' K x y w h r2) : doF rw' K (x, y, w, h) = .inl r2 := by
  obtain ⟨a, b, c, e, rfl, rfl, rfl, rfl, h1, h2, h3, h4, h5⟩ := hd
  unfold doF
  rw [if_pos ⟨onB_is.mpr ⟨a, c, rfl, rfl, h1, h2⟩, onB_is.mpr ⟨b, e, rfl, rfl, h3, h4⟩⟩]
  dsimp only
  rw [zCL (by omega), zCL (by omega), zCL (by omega), zCL (by omega)]
  rcases h5 with ⟨k6, rfl, h10⟩ | ⟨k6, hb, rfl⟩
  · rw [if_neg k6, if_pos h10]
  · rw [if_pos k6, if_pos hb]
theorem doF_bad {rw' : Nat → Nat} {K k : Nat} {x y w h : Int32} (hd : DoBad rw' K x y w h k) : doF rw' K (x, y, w, h) = .inr k := by
  rcases hd with ⟨rfl, hno⟩ | ⟨a, b, c, e, rfl, rfl, rfl, rfl, h1, h2, h3, h4, h5⟩
  · unfold doF
    rw [if_neg (fun q => hno ⟨onB_is.mp q.1, onB_is.mp q.2⟩)]
  · unfold doF
    rw [if_pos ⟨onB_is.mpr ⟨a, c, rfl, rfl, h1, h2⟩, onB_is.mpr ⟨b, e, rfl, rfl, h3, h4⟩⟩]
    dsimp only
    rw [zCL (by omega), zCL (by omega), zCL (by omega), zCL (by omega)]
    rcases h5 with ⟨k6, rfl, h10⟩ | ⟨k6, rfl, hb⟩
    · rw [if_neg k6, if_neg h10]
    · rw [if_pos k6, if_neg (by rw [hb]; simp)]
def upE (env : Nat → Int32) (s : Nat) (v : Int32) : Nat → Int32 := fun k => if k = s then v else env k
/-- the STEP at token j, so many times more, the name s being a + k and on -/
def eaF (L : List Nat) (T : Nat) (NM : Nat → Nat) (s : Nat) (a : Int32) (j : Nat) : Nat → Nat → (Nat → Int32) → (Nat → Nat) → ((Nat → Int32) × (Nat → Nat)) ⊕ Nat
  | 0, _, env, rw' => .inl (env, rw')
  | z + 1, k, env, rw' => match stF L T NM (upE env s (a + nI k)) j with
    | .inr _ => .inr 0
    | .inl p => match doF rw' (tK L j) p.1 with
      | .inr e => .inr e
      | .inl r2 => eaF L T NM s a j z (k + 1) (upE env s (a + nI k)) r2
abbrev S2 := ((Nat → Int32) × (Nat → Nat) × Nat) ⊕ (Nat × Nat)
def bd2 (r : ER) (c : Int32 → Nat → S2) : S2 := match r with
  | .inr e => .inr e
  | .inl p => c p.1 p.2
def bd42 (r : ER4) (c : (Int32 × Int32 × Int32 × Int32) → Nat → S2) : S2 := match r with
  | .inr e => .inr e
  | .inl p => c p.1 p.2
theorem bd2_l (v : Int32) (j : Nat) (c : Int32 → Nat → S2) : bd2 (.inl (v, j)) c = c v j := rfl
theorem bd42_l (v : Int32 × Int32 × Int32 × Int32) (j : Nat) (c : (Int32 × Int32 × Int32 × Int32) → Nat → S2) : bd42 (.inl (v, j)) c = c v j := rfl
def slE (L : List Nat) (T : Nat) (NM : Nat → Nat) (i : Nat) : Nat := (slt NM T (tC L i)).getD 0
def turnsI (a b : Int32) : Int := b.toInt - a.toInt + 1
def eaR (r : ((Nat → Int32) × (Nat → Nat)) ⊕ Nat) (j2 j3 : Nat) : S2 := match r with
  | .inr k => .inr (k, j2)
  | .inl p => .inl (p.1, p.2, j3 + 1)
def doR (r : (Nat → Nat) ⊕ Nat) (env : Nat → Int32) (i j : Nat) : S2 := match r with
  | .inr k => .inr (k, i)
  | .inl r2 => .inl (env, r2, j + 1)
def st2 (L : List Nat) (T : Nat) (NM : Nat → Nat) (env : Nat → Int32) (rw' : Nat → Nat) (i : Nat) : S2 :=
  if tK L i = 7 then bd2 (smL L T NM env (i + 2)) (fun v j => .inl (upE env (slE L T NM (i + 1)) v, rw', j + 1))
  else if tK L i = 8 then bd2 (smL L T NM env (i + 2)) (fun a j => bd2 (smL L T NM env j) (fun b j2 => bd42 (stF L T NM env j2) (fun _ j3 =>
    if turnsI a b ≤ 0 then .inl (env, rw', j3 + 1) else if 64 < turnsI a b then .inr (4, i) else eaR (eaF L T NM (slE L T NM (i + 1)) a j2 (turnsI a b).toNat 0 env rw') j2 j3)))
  else bd42 (stF L T NM env i) (fun q j => doR (doF rw' (tK L i) q) env i j)
abbrev R2 := (Nat → Nat) ⊕ (Nat × Nat)
def bdR (r : S2) (c : (Nat → Int32) → (Nat → Nat) → Nat → R2) : R2 := match r with
  | .inr e => .inr e
  | .inl p => c p.1 p.2.1 p.2.2
def p2 (L : List Nat) (T : Nat) (NM : Nat → Nat) : Nat → (Nat → Int32) → (Nat → Nat) → Nat → R2
  | 0, _, _, i => .inr (0, i)
  | f + 1, env, rw', i => if tK L i = 0 then .inl rw' else bdR (st2 L T NM env rw' i) (fun e r j => p2 L T NM f e r j)
theorem p2_s (L : List Nat) (T : Nat) (NM : Nat → Nat) (f : Nat) (env : Nat → Int32) (rw' : Nat → Nat) (i : Nat) : p2 L T NM (f + 1) env rw' i = if tK L i = 0 then .inl rw' else bdR (st2 L T NM env rw' i) (fun e r j => p2 L T NM f e r j) := rfl
