theorem lackA.uniq {n : Nat} {x y : Nat → Nat} {E : Nat} {m : Mat} {a v v' : Int32} (h : lackA n x y E m a v) (h' : lackA n x y E m a v') : v = v' := by
  rcases h with ⟨h0, j, h1, h2, h3, h4⟩ | ⟨h1, h2⟩
  · rcases h' with ⟨-, j', i1, i2, i3, i4⟩ | ⟨i1, -⟩
    · have ej : j = j' := eqn (by omega) (by omega) (h3.symm.trans i3)
      subst ej
      rw [h4, i4]
    · exact (i1 ⟨h0, j, h1, h2, h3⟩).elim
  · rcases h' with ⟨i0, j', i1, i2, i3, -⟩ | ⟨-, i2⟩
    · exact (h1 ⟨i0, j', i1, i2, i3⟩).elim
    · rw [h2, i2]
theorem farA.uniq {n : Nat} {x y : Nat → Nat} {E : Nat} {m : Mat} {a v v' : Int32} (hn : n < 1000) (h : farA n x y E m a v) (h' : farA n x y E m a v') : v = v' := by
  rcases h with ⟨h0, j, h1, h3, h4⟩ | ⟨h1, h2⟩
  · rcases h' with ⟨-, j', i1, i3, i4⟩ | ⟨i1, -⟩
    · have ej : j = j' := eqn (by omega) (by omega) (h3.symm.trans i3)
      subst ej
      rw [h4, i4]
    · exact (i1 ⟨h0, j, h1, h3⟩).elim
  · rcases h' with ⟨i0, j', i1, i3, -⟩ | ⟨-, i2⟩
    · exact (h1 ⟨i0, j', i1, i3⟩).elim
    · rw [h2, i2]
theorem couA.uniq {n E : Nat} {m : Mat} {at' last tp : Nat} {w v v' : Int32} (h : couA n E m at' last tp w v) (h' : couA n E m at' last tp w v') : v = v' := by
  rcases h with ⟨j, h1, h3, h4⟩ | ⟨h1, h2⟩
  · rcases h' with ⟨j', i1, i3, i4⟩ | ⟨i1, -⟩
    · have ej : j = j' := eqn (by omega) (by omega) (h3.symm.trans i3)
      subst ej
      rw [h4, i4]
    · exact (i1 j h1 h3).elim
  · rcases h' with ⟨j', i1, i3, -⟩ | ⟨-, i2⟩
    · exact (h1 j' i1 i3).elim
    · rw [h2, i2]
theorem beyA.uniq {n : Nat} {x y : Nat → Nat} {E : Nat} {m : Mat} {a b w v v' : Int32} (hn : n < 1000) (h : beyA n x y E m a b w v) (h' : beyA n x y E m a b w v') : v = v' := by
  rcases h with ⟨h0, c, s, j, h1, h2, h3, h4, h5, h6, h7⟩ | ⟨h1, h2⟩
  · rcases h' with ⟨-, c', s', j', i1, i2, i3, i4, i5, i6, i7⟩ | ⟨i1, -⟩
    · have ec : c = c' := eqn (by omega) (by omega) (h4.symm.trans i4)
      have es : s = s' := eqn (by omega) (by omega) (h5.symm.trans i5)
      have ej : j = j' := eqn (by omega) (by omega) (h6.symm.trans i6)
      subst ec
      subst es
      subst ej
      rw [h7, i7]
    · exact (i1 ⟨h0, c, s, j, h1, h2, h3, h4, h5, h6⟩).elim
  · rcases h' with ⟨i0, c', s', j', i1, i2, i3, i4, i5, i6, -⟩ | ⟨-, i2⟩
    · exact (h1 ⟨i0, c', s', j', i1, i2, i3, i4, i5, i6⟩).elim
    · rw [h2, i2]
theorem dI_inj : ∀ k, k < 25 → ∀ l, l < 25 → dI k = dI l → k = l := by decide +kernel
theorem wayA.uniq {n : Nat} {x y : Nat → Nat} {E : Nat} {m : Mat} {a dx dy w v v' : Int32} (hn : n < 1000) (h : wayA n x y E m a dx dy w v) (h' : wayA n x y E m a dx dy w v') : v = v' := by
  rcases h with ⟨h0, c, s, t, j, h1, h2, h3, h4, h5, h6, h7, h8, h9⟩ | ⟨h1, h2⟩
  · rcases h' with ⟨-, c', s', t', j', i1, i2, i3, i4, i5, i6, i7, i8, i9⟩ | ⟨i1, -⟩
    · have ec : c = c' := eqn (by omega) (by omega) (h5.symm.trans i5)
      have es : s = s' := dI_inj s h2 s' i2 (h6.symm.trans i6)
      have et : t = t' := dI_inj t h3 t' i3 (h7.symm.trans i7)
      have ej : j = j' := eqn (by omega) (by omega) (h8.symm.trans i8)
      subst ec
      subst es
      subst et
      subst ej
      rw [h9, i9]
    · exact (i1 ⟨h0, c, s, t, j, h1, h2, h3, h4, h5, h6, h7, h8⟩).elim
  · rcases h' with ⟨i0, c', s', t', j', i1, i2, i3, i4, i5, i6, i7, i8, -⟩ | ⟨-, i2⟩
    · exact (h1 ⟨i0, c', s', t', j', i1, i2, i3, i4, i5, i6, i7, i8⟩).elim
    · rw [h2, i2]
