/-! ===== one answer ===== -/
theorem eqn {a b : Nat} (ha : a < 1000) (hb : b < 1000) (h : nI a = nI b) : a = b := by
  rwa [zEQ (by omega) (by omega)] at h
theorem cellA.uniq {n : Nat} {x y : Nat → Nat} {E : Nat} {a w v v' : Int32} (hn : n < 1000) (h : cellA n x y E a w v) (h' : cellA n x y E a w v') : v = v' := by
  rcases h with ⟨k, j, h1, h2, h3, h4, h5⟩ | ⟨h1, h2⟩
  · rcases h' with ⟨k', j', i1, i2, i3, i4, i5⟩ | ⟨i1, i2⟩
    · have ek : k = k' := eqn (by omega) (by omega) (h3.symm.trans i3)
      have ej : j = j' := eqn (by omega) (by omega) (h4.symm.trans i4)
      subst ek
      subst ej
      rw [h5, i5]
    · exact (i1 k j h1 h2 h3 h4).elim
  · rcases h' with ⟨k', j', i1, i2, i3, i4, i5⟩ | ⟨i1, i2⟩
    · exact (h1 k' j' i1 i2 i3 i4).elim
    · rw [h2, i2]
theorem edgeA.uniq {n : Nat} {x y : Nat → Nat} {E : Nat} {m : Mat} {a w v v' : Int32} (hE : E < 1000) (h : edgeA n x y E m a w v) (h' : edgeA n x y E m a w v') : v = v' := by
  rcases h with ⟨k, j, h1, h2, h3, h4, h5⟩ | ⟨h1, h2⟩
  · rcases h' with ⟨k', j', i1, i2, i3, i4, i5⟩ | ⟨i1, i2⟩
    · have ek : k = k' := eqn (by omega) (by omega) (h3.symm.trans i3)
      have ej : j = j' := eqn (by omega) (by omega) (h4.symm.trans i4)
      subst ek
      subst ej
      rw [h5, i5]
    · exact (i1 k j h1 h2 h3 h4).elim
  · rcases h' with ⟨k', j', i1, i2, i3, i4, i5⟩ | ⟨i1, i2⟩
    · exact (h1 k' j' i1 i2 i3 i4).elim
    · rw [h2, i2]
theorem corA.uniq {E : Nat} {lf q : Nat → Nat} {a w v v' : Int32} (hE : E < 1000) (h : corA E lf q a w v) (h' : corA E lf q a w v') : v = v' := by
  rcases h with ⟨k, j, h1, h2, h3, h4, h5⟩ | ⟨h1, h2⟩
  · rcases h' with ⟨k', j', i1, i2, i3, i4, i5⟩ | ⟨i1, i2⟩
    · have ek : k = k' := eqn (by omega) (by omega) (h3.symm.trans i3)
      have ej : j = j' := eqn (by omega) (by omega) (h4.symm.trans i4)
      subst ek
      subst ej
      rw [h5, i5]
    · exact (i1 k j h1 h2 h3 h4).elim
  · rcases h' with ⟨k', j', i1, i2, i3, i4, i5⟩ | ⟨i1, i2⟩
    · exact (h1 k' j' i1 i2 i3 i4).elim
    · rw [h2, i2]
theorem RfP.uniq {E : Nat} {q : Nat → Nat} {m : Mat} {a b v v' : Int32} (hE : E < 1000) (h : RfP E q m a b v) (h' : RfP E q m a b v') : v = v' := by
  rcases h with ⟨k, j, h1, h2, h0, h3, h4, h5⟩ | ⟨h1, h2⟩
  · rcases h' with ⟨k', j', i1, i2, i0, i3, i4, i5⟩ | ⟨i1, i2⟩
    · have ek : k = k' := eqn (by omega) (by omega) (h3.symm.trans i3)
      have ej : j = j' := eqn (by omega) (by omega) (h4.symm.trans i4)
      subst ek
      subst ej
      rw [h5, i5]
    · exact (i1 k j h1 h2 h0 h3 h4).elim
  · rcases h' with ⟨k', j', i1, i2, i0, i3, i4, i5⟩ | ⟨i1, i2⟩
    · exact (h1 k' j' i1 i2 i0 i3 i4).elim
    · rw [h2, i2]
/-- the class returns: so does the reference, with the same answer -/
theorem shoV.same {n : Nat} {x y : Nat → Nat} {E : Nat} {m : Mat} {a b w v v' : Int32} {s : PS} (hn : n < 1000) (h : shoV n x y E m a b w v) (h' : shoA n x y E m a b w v' s) : mi s 179 0 = 0 ∧ v' = v := by
  obtain ⟨hb, c, e, j, h1, h2, h3, h4, h5, h6, h7, h8⟩ := h
  rcases h' with ⟨-, c', e', j', i1, i2, i3, i4, i5, i6, i7, i8, i9⟩ | ⟨h9, -⟩
  · have ec : c = c' := eqn (by omega) (by omega) (h4.symm.trans i4)
    have ee : e = e' := eqn (by omega) (by omega) (h5.symm.trans i5)
    have ej : j = j' := eqn (by omega) (by omega) (h6.symm.trans i6)
    subst ec
    subst ee
    subst ej
    exact ⟨i9, by rw [i8, h8]⟩
  · exact (h9 ⟨hb, c, e, j, h1, h2, h3, h4, h5, h6, h7⟩).elim
theorem shoP.same {n : Nat} {x y : Nat → Nat} {E : Nat} {m : Mat} {a b w v' : Int32} {s : PS} (h : ¬ shoP n x y E m a b w) (h' : shoA n x y E m a b w v' s) : mi s 179 0 = 1 := by
  rcases h' with ⟨hb, c', e', j', i1, i2, i3, i4, i5, i6, i7, i8, i9⟩ | ⟨-, h9⟩
  · exact (h ⟨hb, c', e', j', i1, i2, i3, i4, i5, i6, i7⟩).elim
  · exact h9
theorem rouV.same {n : Nat} {x y : Nat → Nat} {E : Nat} {m : Mat} {a w v v' : Int32} {s : PS} (hn : n < 1000) (h : rouV n x y E m a w v) (h' : rouA n x y E m a w v' s) : mi s 179 0 = 0 ∧ v' = v := by
  obtain ⟨hb, c, j, h1, h3, h4, h6, h7, h8⟩ := h
  rcases h' with ⟨-, c', j', i1, i3, i4, i6, i7, i8, i9⟩ | ⟨h9, -⟩
  · have ec : c = c' := eqn (by omega) (by omega) (h4.symm.trans i4)
    have ej : j = j' := eqn (by omega) (by omega) (h6.symm.trans i6)
    subst ec
    subst ej
    exact ⟨i9, by rw [i8, h8]⟩
  · exact (h9 ⟨hb, c, j, h1, h3, h4, h6, h7⟩).elim
theorem rouP.same {n : Nat} {x y : Nat → Nat} {E : Nat} {m : Mat} {a w v' : Int32} {s : PS} (h : ¬ rouP n x y E m a w) (h' : rouA n x y E m a w v' s) : mi s 179 0 = 1 := by
  rcases h' with ⟨hb, c', j', i1, i3, i4, i6, i7, i8, i9⟩ | ⟨-, h9⟩
  · exact (h ⟨hb, c', j', i1, i3, i4, i6, i7⟩).elim
  · exact h9
