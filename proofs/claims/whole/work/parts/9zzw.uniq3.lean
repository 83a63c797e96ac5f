theorem parA.uniq {E : Nat} {q : Nat → Nat} {a e v v' : Int32} (hE : E < 1000) (h : parA E q a e v) (h' : parA E q a e v') : v = v' := by
  have key : ∀ {k j : Nat} {m : Mat}, (gls E q).length ≤ 2000 → (gls E q)[k]? = some m → j < E → inN (nI k) (gls E q).length = true ∧ inN (nI j) E = true ∧ k < (gls E q).length := by
    intro k j m h0 hk hj
    have hl := (List.getElem?_eq_some_iff.mp hk).1
    exact ⟨(inN_is (by omega)).mpr ⟨k, hl, rfl⟩, (inN_is (by omega)).mpr ⟨j, hj, rfl⟩, hl⟩
  rcases h with ⟨k, j, m, h0, h1, h2, h3, h4, h5⟩ | ⟨h1, h2⟩
  · have hk := key h0 h1 h2
    rcases h' with ⟨k', j', m', i0, i1, i2, i3, i4, i5⟩ | ⟨i1, -⟩
    · have hk' := key i0 i1 i2
      have ek : k = k' := by
        have h6 := h3.symm.trans i3
        rwa [zEQ (by omega) (by omega)] at h6
      have ej : j = j' := eqn (by omega) (by omega) (h4.symm.trans i4)
      subst ek
      subst ej
      have em : m = m' := Option.some.inj (h1.symm.trans i1)
      rw [h5, i5, em]
    · exact (i1 ⟨h0, by rw [h3]; exact hk.1, by rw [h4]; exact hk.2.1⟩).elim
  · rcases h' with ⟨k', j', m', i0, i1, i2, i3, i4, i5⟩ | ⟨-, i2⟩
    · have hk' := key i0 i1 i2
      exact (h1 ⟨i0, by rw [i3]; exact hk'.1, by rw [i4]; exact hk'.2.1⟩).elim
    · rw [h2, i2]
