/-! ===== TOKENS of a TAPE (numbers alone) ===== -/
def lc (L : List Nat) (i : Nat) : Nat := L.getD i 0
def ltr (c : Nat) : Bool := decide (97 ≤ c) && decide (c ≤ 122)
def dgt (c : Nat) : Bool := decide (48 ≤ c) && decide (c ≤ 57)
def blk (c : Nat) : Bool := c == 10 || c == 32
/-- ( ) * + - ; < = -/
def sgC (c : Nat) : Bool := decide (40 ≤ c) && decide (c ≤ 43) || c == 45 || decide (59 ≤ c) && decide (c ≤ 61)
theorem ltr_is {c : Nat} : ltr c = true ↔ 97 ≤ c ∧ c ≤ 122 := by unfold ltr; simp
theorem dgt_is {c : Nat} : dgt c = true ↔ 48 ≤ c ∧ c ≤ 57 := by unfold dgt; simp
theorem blk_is {c : Nat} : blk c = true ↔ c = 10 ∨ c = 32 := by unfold blk; simp
theorem sgC_is {c : Nat} : sgC c = true ↔ (40 ≤ c ∧ c ≤ 43) ∨ c = 45 ∨ (59 ≤ c ∧ c ≤ 61) := by unfold sgC; simp [or_assoc]
def rn (p : Nat → Bool) (L : List Nat) : Nat → Nat → Nat
  | 0, i => i
  | z + 1, i => if p (lc L i) then rn p L z (i + 1) else i
/-- the first place from i on that p does not hold at, or the end -/
def endR (p : Nat → Bool) (L : List Nat) (i : Nat) : Nat := rn p L (L.length - i) i
theorem rn_spec (p : Nat → Bool) (L : List Nat) : ∀ z i, i ≤ rn p L z i ∧ rn p L z i ≤ i + z ∧ (∀ j, i ≤ j → j < rn p L z i → p (lc L j) = true) ∧ (rn p L z i < i + z → p (lc L (rn p L z i)) = false) := by
  intro z
  induction z with
  | zero => intro i; exact ⟨Nat.le_refl _, Nat.le_refl _, fun j h1 h2 => absurd h2 (by show ¬ j < i; omega), fun h => absurd h (by show ¬ i < i + 0; omega)⟩
  | succ z ih =>
    intro i
    have e : rn p L (z + 1) i = if p (lc L i) then rn p L z (i + 1) else i := rfl
    rw [e]
    cases hp : p (lc L i) with
    | true =>
      rw [if_pos rfl]
      obtain ⟨a, b, c, d⟩ := ih (i + 1)
      refine ⟨by omega, by omega, fun j h1 h2 => ?_, fun h => d (by omega)⟩
      by_cases q : j = i
      · rw [q]; exact hp
      · exact c j (by omega) h2
    | false =>
      rw [if_neg (by simp)]
      exact ⟨Nat.le_refl _, by omega, fun j h1 h2 => by omega, fun _ => hp⟩
theorem endR_spec (p : Nat → Bool) (L : List Nat) {i : Nat} (hi : i ≤ L.length) : i ≤ endR p L i ∧ endR p L i ≤ L.length ∧ (∀ j, i ≤ j → j < endR p L i → p (lc L j) = true) ∧ (endR p L i < L.length → p (lc L (endR p L i)) = false) := by
  obtain ⟨a, b, c, d⟩ := rn_spec p L (L.length - i) i
  exact ⟨a, by unfold endR; omega, c, fun h => d (by unfold endR at h; omega)⟩
theorem endR_is (p : Nat → Bool) (L : List Nat) {i r : Nat} (h1 : i ≤ r) (h2 : r ≤ L.length) (h3 : ∀ j, i ≤ j → j < r → p (lc L j) = true) (h4 : r < L.length → p (lc L r) = false) : endR p L i = r := by
  obtain ⟨a, b, c, d⟩ := endR_spec p L (i := i) (by omega)
  rcases Nat.lt_trichotomy (endR p L i) r with z | z | z
  · have := d (by omega)
    rw [h3 _ a z] at this
    cases this
  · exact z
  · have := h4 (by omega)
    rw [c r h1 z] at this
    cases this
/-- where the token that begins at b ends -/
def te (L : List Nat) (b : Nat) : Nat := if ltr (lc L b) then endR ltr L (b + 1) else if dgt (lc L b) then endR dgt L (b + 1) else b + 1
theorem te_b {L : List Nat} {b : Nat} (h : b < L.length) : b < te L b ∧ te L b ≤ L.length := by
  unfold te
  split
  · have := endR_spec ltr L (i := b + 1) (by omega); omega
  · split
    · have := endR_spec dgt L (i := b + 1) (by omega); omega
    · omega
def nb (L : List Nat) (p : Nat) : Nat := endR blk L p
/-- where the i-th token begins -/
def tb (L : List Nat) : Nat → Nat
  | 0 => nb L 0
  | i + 1 => if tb L i < L.length then nb L (te L (tb L i)) else tb L i
theorem tb_s (L : List Nat) (i : Nat) : tb L (i + 1) = if tb L i < L.length then nb L (te L (tb L i)) else tb L i := rfl
theorem tb_le (L : List Nat) : ∀ i, tb L i ≤ L.length := by
  intro i
  induction i with
  | zero => exact (endR_spec blk L (Nat.zero_le _)).2.1
  | succ i ih =>
    rw [tb_s]
    split
    · exact (endR_spec blk L (te_b (by assumption)).2).2.1
    · exact ih
theorem tb_te {L : List Nat} {i : Nat} (h : tb L i < L.length) : te L (tb L i) ≤ tb L (i + 1) := by
  rw [tb_s, if_pos h]
  exact (endR_spec blk L (te_b h).2).1
theorem tb_lt {L : List Nat} {i : Nat} (h : tb L i < L.length) : tb L i < tb L (i + 1) := Nat.lt_of_lt_of_le (te_b h).1 (tb_te h)
theorem tb_nb {L : List Nat} {i : Nat} (h : tb L i < L.length) : blk (lc L (tb L i)) = false := by
  cases i with
  | zero => exact (endR_spec blk L (Nat.zero_le _)).2.2.2 h
  | succ i =>
    rw [tb_s] at h ⊢
    by_cases e : tb L i < L.length
    · rw [if_pos e] at h ⊢
      exact (endR_spec blk L (te_b e).2).2.2.2 h
    · rw [if_neg e] at h
      exact absurd h e
/-- value of the k signs from b on, in base m, each less o -/
def vk (m o : Nat) (L : List Nat) (b : Nat) : Nat → Nat
  | 0 => 0
  | k + 1 => vk m o L b k * m + (lc L (b + k) - o)
theorem vk_s (m o : Nat) (L : List Nat) (b k : Nat) : vk m o L b (k + 1) = vk m o L b k * m + (lc L (b + k) - o) := rfl
theorem vk_lt {m o : Nat} {L : List Nat} {b : Nat} (hm : 0 < m) : ∀ k, (∀ j, j < k → lc L (b + j) - o < m) → vk m o L b k < m ^ k := by
  intro k
  induction k with
  | zero => intro _; exact Nat.one_pos
  | succ k ih =>
    intro h
    have a := ih (fun j hj => h j (by omega))
    have c := h k (by omega)
    rw [vk_s, Nat.pow_succ]
    have := Nat.mul_le_mul_right m (Nat.succ_le_of_lt a)
    rw [Nat.succ_mul] at this
    omega
theorem vk_inj {m o o' m' : Nat} {L L' : List Nat} {b b' : Nat} (ho : o < 97) (hm : 122 - o < m) : ∀ k k', (∀ j, j < k → ltr (lc L (b + j)) = true) → (∀ j, j < k' → ltr (lc L' (b' + j)) = true) → vk m o L b k = vk m o L' b' k' → vk m' o' L b k = vk m' o' L' b' k' := by
  intro k
  induction k with
  | zero =>
    intro k' _ h' e
    cases k' with
    | zero => rfl
    | succ k' =>
      exfalso
      have c := ltr_is.mp (h' k' (by omega))
      rw [vk_s] at e
      have e' : 0 = vk m o L' b' k' * m + (lc L' (b' + k') - o) := e
      omega
  | succ k ih =>
    intro k' h h' e
    have c := ltr_is.mp (h k (by omega))
    cases k' with
    | zero =>
      exfalso
      rw [vk_s] at e
      have e' : vk m o L b k * m + (lc L (b + k) - o) = 0 := e
      omega
    | succ k' =>
      have c' := ltr_is.mp (h' k' (by omega))
      rw [vk_s, vk_s] at e
      have hmod : (lc L (b + k) - o) = (lc L' (b' + k') - o) := by
        have := congrArg (· % m) e
        simp only [Nat.add_comm, Nat.add_mul_mod_self_right] at this
        rw [Nat.mod_eq_of_lt (by omega), Nat.mod_eq_of_lt (by omega)] at this
        exact this
      have hl : lc L (b + k) = lc L' (b' + k') := by omega
      have hq : vk m o L b k = vk m o L' b' k' := by
        rw [hmod] at e
        exact Nat.eq_of_mul_eq_mul_right (show 0 < m by omega) (Nat.add_right_cancel e)
      rw [vk_s, vk_s, ih k' (fun j hj => h j (by omega)) (fun j hj => h' j (by omega)) hq, hl]
/-- the length of a token; what it is: 0 end, 1 none, 2 NUMBER, 3 NAME, 4 cell, 5 rect, 6 less, 7 let, 8 each, else its sign -/
def tlen (L : List Nat) (b : Nat) : Nat := te L b - b
def kw (v : Nat) : Nat := if v = 1667591276 then 4 else if v = 1919247220 then 5 else if v = 1818588019 then 6 else if v = 7103860 then 7 else if v = 1700881256 then 8 else 3
def tk (L : List Nat) (b : Nat) : Nat := if L.length ≤ b then 0 else if ltr (lc L b) then (if tlen L b ≤ 8 then kw (vk 256 0 L b (tlen L b)) else 1) else if dgt (lc L b) then (if tlen L b ≤ 4 then 2 else 1) else if sgC (lc L b) then lc L b else 1
/-- what a token is worth: of a NUMBER what it is, of a WORD its letters -/
def tv (L : List Nat) (b : Nat) : Nat := if ltr (lc L b) then (if tlen L b ≤ 8 then vk 256 0 L b (tlen L b) else 0) else if dgt (lc L b) then (if tlen L b ≤ 4 then vk 10 48 L b (tlen L b) else 0) else 0
theorem te_all {L : List Nat} {b : Nat} (h : b < L.length) (hl : ltr (lc L b) = true) : ∀ j, j < tlen L b → ltr (lc L (b + j)) = true := by
  intro j hj
  unfold tlen te at hj
  rw [if_pos hl] at hj
  cases j with
  | zero => exact hl
  | succ j => exact (endR_spec ltr L (i := b + 1) (by omega)).2.2.1 (b + (j + 1)) (by omega) (by omega)
theorem te_dig {L : List Nat} {b : Nat} (h : b < L.length) (hl : ltr (lc L b) = false) (hd : dgt (lc L b) = true) : ∀ j, j < tlen L b → dgt (lc L (b + j)) = true := by
  intro j hj
  unfold tlen te at hj
  rw [if_neg (by rw [hl]; simp), if_pos hd] at hj
  cases j with
  | zero => exact hd
  | succ j => exact (endR_spec dgt L (i := b + 1) (by omega)).2.2.1 (b + (j + 1)) (by omega) (by omega)
