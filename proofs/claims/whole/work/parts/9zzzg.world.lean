/-! ===== one answer (same, bodyOf, bodies); the world of the law's loop ===== -/
theorem smA.uniq {n : Nat} {x y : Nat → Nat} {E : Nat} {T : List Mat} {a b v v' : Int32} (h : smA n x y E T a b v) (h' : smA n x y E T a b v') : v = v' := by
  rcases h with ⟨h0, i, j, h1, h2, h3, h4, h5⟩ | ⟨h1, h2⟩
  · rcases h' with ⟨i0, i', j', i1, i2, i3, i4, i5⟩ | ⟨i1, i2⟩
    · have ei : i = i' := by
        have h6 := h3.symm.trans i3
        rwa [zEQ (by omega) (by omega)] at h6
      have ej : j = j' := by
        have h6 := h4.symm.trans i4
        rwa [zEQ (by omega) (by omega)] at h6
      subst ei
      subst ej
      rcases h5 with ⟨rfl, a1⟩ | ⟨rfl, a1⟩ <;> rcases i5 with ⟨rfl, b1⟩ | ⟨rfl, b1⟩
      · rfl
      · exact (b1 a1).elim
      · exact (a1 b1).elim
      · rfl
    · exact (i1 ⟨h0, by rw [h3]; exact (inN_is (by omega)).mpr ⟨i, h1, rfl⟩, by rw [h4]; exact (inN_is (by omega)).mpr ⟨j, h2, rfl⟩⟩).elim
  · rcases h' with ⟨i0, i', j', i1, i2, i3, i4, i5⟩ | ⟨i1, i2⟩
    · exact (h1 ⟨i0, by rw [i3]; exact (inN_is (by omega)).mpr ⟨i', i1, rfl⟩, by rw [i4]; exact (inN_is (by omega)).mpr ⟨j', i2, rfl⟩⟩).elim
    · rw [h2, i2]
theorem boA.uniq {n : Nat} {x y : Nat → Nat} {E : Nat} {T : List Mat} {a v v' : Int32} (h : boA n x y E T a v) (h' : boA n x y E T a v') : v = v' := by
  rcases h with ⟨h0, k, j, h1, h2, h3, h4⟩ | ⟨h1, h2⟩
  · rcases h' with ⟨i0, k', j', i1, i2, i3, i4⟩ | ⟨i1, i2⟩
    · have ek : k = k' := by
        have h6 := h2.symm.trans i2
        rwa [zEQ (by omega) (by omega)] at h6
      subst ek
      rw [h4, i4, h3.uniq i3]
    · exact (i1 ⟨h0, by rw [h2]; exact (inN_is (by omega)).mpr ⟨k, h1, rfl⟩⟩).elim
  · rcases h' with ⟨i0, k', j', i1, i2, i3, i4⟩ | ⟨i1, i2⟩
    · exact (h1 ⟨i0, by rw [i2]; exact (inN_is (by omega)).mpr ⟨k', i1, rfl⟩⟩).elim
    · rw [h2, i2]
theorem bsA.uniq {n : Nat} {x y : Nat → Nat} {E : Nat} {T : List Mat} {v v' : Int32} (h : bsA n x y E T v) (h' : bsA n x y E T v') : v = v' := by
  rcases h with ⟨h0, f, h1, h2⟩ | ⟨h1, h2⟩
  · rcases h' with ⟨i0, f', i1, i2⟩ | ⟨i1, i2⟩
    · rw [h2, i2]
      congr 1
      refine cnt_congr fun k hk => ?_
      rw [(h1 k hk).uniq (i1 k hk)]
    · exact (i1 h0).elim
  · rcases h' with ⟨i0, f', i1, i2⟩ | ⟨i1, i2⟩
    · exact (h1 i0).elim
    · rw [h2, i2]
theorem KB.ch {σ s : PS} {n E : Nat} {x y : Nat → Nat} {T : List Mat} {Pm Pl : Nat → Nat → Prop} (h : KB σ n x y E T) (c : Ch Pm Pl σ s) (h1 : ¬ Pm 133 10) (h2 : ¬ Pm 133 11) (h3 : ∀ i, ¬ Pm 143 i) : KB s n x y E T := by
  refine ⟨by rw [c.i h1]; exact h.1, fun hl => ?_⟩
  obtain ⟨f, a1, a2⟩ := h.2 hl
  exact ⟨f, fun k hk => ⟨(a1 k hk).1, by rw [c.i (h3 k)]; exact (a1 k hk).2⟩, by rw [c.i h2]; exact a2⟩
theorem LKo.ch {σ s : PS} {n E : Nat} {x y : Nat → Nat} {m : Mat} {Pm Pl : Nat → Nat → Prop} (h : LKo σ n x y E m) (c : Ch Pm Pl σ s) (h1 : ¬ Pm 144 3) (h2 : ∀ a i, 145 ≤ a → a ≤ 148 → ¬ Pm a i) : LKo s n x y E m := fun hb k hk hm slot hs =>
  (h hb k hk (by rw [← c.i h1]; exact hm) slot hs).ch c (fun o a1 a2 => h2 o _ a1 a2)
theorem UKo.ch {σ s : PS} {n E : Nat} {x y : Nat → Nat} {m : Mat} {Pm Pl : Nat → Nat → Prop} (h : UKo σ n x y E m) (c : Ch Pm Pl σ s) (h1 : ∀ i, 1 ≤ i → i ≤ 4 → ¬ Pm 149 i) : UKo s n x y E m := fun hb hn hm => by
  obtain ⟨a1, a2, a3⟩ := h hb hn (by rw [← c.i (h1 1 (by omega) (by omega))]; exact hm)
  exact ⟨by rw [c.i (h1 2 (by omega) (by omega))]; exact a1, by rw [c.i (h1 3 (by omega) (by omega))]; exact a2, by rw [c.i (h1 4 (by omega) (by omega))]; exact a3⟩
theorem LKo.no {σ : PS} {n E : Nat} {x y : Nat → Nat} {m : Mat} (h : mi σ 144 3 = -1) (hn : n ≤ 10) : LKo σ n x y E m := fun _ k hk hm => by
  rw [h] at hm
  have h2 := congrArg Int32.toInt hm
  rw [nI_toInt (by omega)] at h2
  have h3 : (-1 : Int32).toInt = -1 := by decide
  omega
theorem UKo.no {σ : PS} {n E : Nat} {x y : Nat → Nat} {m : Mat} (h : mi σ 149 1 = 0) : UKo σ n x y E m := fun _ _ hm => absurd h hm
/-- q of the rows' figure -/
abbrev qw (w : Nat → Nat) (E : Nat) : Nat → Nat := qt (fN w) (fX w) (fY w) E
/-- what the class holds, after the rows w, the acts S, the marks mk, the tape L -/
def CW (σ : PS) (w : Nat → Nat) (E : Nat) (ρ : Nat → Nat) (S : Nat → Mat) (at' last : Nat) (mk : Nat → Option MkT) (L : List Nat) : Prop :=
  CA σ (fN w) (fX w) (fY w) E ρ S at' last ∧ RowsF σ 21 w ∧ (¬ mi σ 87 1 = 0 → EC σ E (gls E (qw w E))) ∧ (¬ mi σ 133 9 = 0 → ¬ mi σ 87 1 = 0 ∧ KB σ (fN w) (fX w) (fY w) E (gls E (qw w E))) ∧ LKo σ (fN w) (fX w) (fY w) E (S at') ∧ UKo σ (fN w) (fX w) (fY w) E (S at') ∧ CMk σ mk ∧ TC σ L
/-- what the reference holds -/
def DW (σ : PS) (w : Nat → Nat) (E : Nat) (S : Nat → Mat) (at' last : Nat) (mk : Nat → Option MkT) (L : List Nat) : Prop :=
  MF σ (fN w) (fX w) (fY w) E ∧ MH σ S at' last ∧ (¬ mi σ 179 47 = 0 → EM σ E (gls E (qw w E))) ∧ (¬ mi σ 179 47 = 0 → ¬ mi σ 179 59 = 0 → RBd σ (fN w) (fX w) (fY w) E (gls E (qw w E))) ∧ RMk σ mk ∧ TM σ L
/-- what holds of the told things alone -/
def GW (w : Nat → Nat) (E : Nat) (S : Nat → Mat) (at' last : Nat) (mk : Nat → Option MkT) (L : List Nat) : Prop :=
  GF w E ∧ at' ≤ last ∧ last ≤ 40 ∧ GoodS E (qw w E) S last ∧ MkG mk ∧ L.length ≤ 1000 ∧ ∀ i, lc L i < 127
def World (σ : PS) : Prop := ∃ (w : Nat → Nat) (E : Nat) (ρ : Nat → Nat) (S : Nat → Mat) (at' last : Nat) (mk : Nat → Option MkT) (L : List Nat), Lay σ ∧ GW w E S at' last mk L ∧ CW σ w E ρ S at' last mk L ∧ DW σ w E S at' last mk L
section WLD
variable {σ s : PS} {w : Nat → Nat} {E : Nat} {ρ : Nat → Nat} {S : Nat → Mat} {at' last : Nat} {mk : Nat → Option MkT} {L : List Nat} {Pm Pl : Nat → Nat → Prop}
/-- the reference's work leaves what the class holds -/
theorem CW.r (h : CW σ w E ρ S at' last mk L) (hl : last ≤ 40) (c : Ch Pm Pl σ s) (hm : ∀ a i, Pm a i → 179 ≤ a) : CW s w E ρ S at' last mk L := by
  have n1 : ∀ a i, a < 179 → ¬ Pm a i := fun a i ha hp => by have := hm a i hp; omega
  obtain ⟨h1, h2, h3, h4, h5, h6, h7, h8⟩ := h
  refine ⟨h1.g c hl (fun a i _ _ => n1 a i (by omega)) (fun a i _ _ => n1 a i (by omega)), h2.ch c (fun i => n1 _ i (by decide)), fun q => ?_, fun q => ?_, h5.ch c (n1 _ _ (by decide)) (fun a i _ _ => n1 a i (by omega)), h6.ch c (fun i _ _ => n1 _ i (by decide)), h7.ch c (fun a i _ _ => n1 a i (by omega)), h8.ch c (n1 _ _ (by decide)) (fun i => n1 _ i (by decide))⟩
  · rw [c.i (n1 _ _ (by decide))] at q
    exact (h3 q).ch c (n1 _ _ (by decide)) (n1 _ _ (by decide)) (fun i => n1 _ i (by decide))
  · rw [c.i (n1 _ _ (by decide))] at q
    rw [c.i (n1 87 1 (by decide))]
    exact ⟨(h4 q).1, (h4 q).2.ch c (n1 _ _ (by decide)) (n1 _ _ (by decide)) (fun i => n1 _ i (by decide))⟩
/-- the class's work leaves what the reference holds -/
theorem DW.r (h : DW σ w E S at' last mk L) (c : Ch Pm Pl σ s) (hm : ∀ a i, Pm a i → a < 179) : DW s w E S at' last mk L := by
  have n1 : ∀ a i, 179 ≤ a → ¬ Pm a i := fun a i ha hp => by have := hm a i hp; omega
  obtain ⟨h1, h2, h3, h4, h5, h6⟩ := h
  refine ⟨h1.ch c (n1 _ _ (by decide)) (n1 _ _ (by decide)) (fun a i _ _ => n1 a i (by omega)), h2.ch c (n1 _ _ (by decide)) (n1 _ _ (by decide)) (fun i => n1 _ i (by decide)) (fun i => n1 _ i (by decide)) (fun i => n1 _ i (by decide)), fun q => ?_, fun q r => ?_, h5.ch c (fun a i _ _ => n1 a i (by omega)), h6.ch c (n1 _ _ (by decide)) (fun i => n1 _ i (by decide))⟩
  · rw [c.i (n1 _ _ (by decide))] at q
    exact (h3 q).ch c (n1 _ _ (by decide)) (fun i => n1 _ i (by decide))
  · rw [c.i (n1 _ _ (by decide))] at q r
    exact (h4 q r).ch c (fun i => n1 _ i (by decide))
/-- a store with another's references: what speaks of ints and longs alone can't tell -/
def wr (s σ : PS) : PS := (s.1, s.2.1, σ.2.2.1, σ.2.2.2.1, s.2.2.2.2)
theorem wr_ch {P : Nat → Nat → Prop} (hm : ∀ a k, ¬ P a k → mi s a k = mi σ a k) (hl : ∀ a k, ¬ Pl a k → ml s a k = ml σ a k) : Ch P Pl σ (wr s σ) := ⟨⟨rfl, rfl⟩, hm, hl⟩
theorem DW.of_wr (h : DW (wr s σ) w E S at' last mk L) : DW s w E S at' last mk L := h
theorem DW.m (h : DW σ w E S at' last mk L) {P : Nat → Nat → Prop} (hm : ∀ a k, ¬ P a k → mi s a k = mi σ a k) (hp : ∀ a i, P a i → a < 179) : DW s w E S at' last mk L :=
  DW.of_wr (h.r (s := wr s σ) (Pl := fun _ _ => True) ⟨⟨rfl, rfl⟩, hm, fun _ _ q => (q trivial).elim⟩ hp)
end WLD
