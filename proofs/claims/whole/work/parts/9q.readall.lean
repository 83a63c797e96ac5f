/-! ===== the class's read: both passes ===== -/
abbrev n0 : Nat → Nat := fun _ => 0
/-- the text's FAULT, or its rows -/
def rdF (L : List Nat) : R2 := match p1 L (nt L + 1) 0 n0 0 with
  | .inr e => .inr e
  | .inl p => p2 L p.1 p.2 (nt L + 1) e0 n0 0
theorem rdF_r {L : List Nat} {e : Nat × Nat} (h : p1 L (nt L + 1) 0 n0 0 = .inr e) : rdF L = .inr e := by unfold rdF; rw [h]
theorem rdF_l {L : List Nat} {T : Nat} {NM : Nat → Nat} (h : p1 L (nt L + 1) 0 n0 0 = .inl (T, NM)) : rdF L = p2 L T NM (nt L + 1) e0 n0 0 := by unfold rdF; rw [h]
def RdA (L : List Nat) (v : Int32) (s : PS) : Prop := (∃ k j, rdF L = .inr (k, j) ∧ v = nI (k + 16 * tb L j) ∧ 1 ≤ k ∧ k ≤ 7 ∧ j ≤ nt L) ∨ ∃ w, rdF L = .inl w ∧ v = 0 ∧ RowsF s 17 w
abbrev chRT : Nat → Nat → Prop := fun a i => a = 11 ∧ i = 5 ∨ a = 13 ∨ a = 14 ∨ a = 17 ∨ a = 19 ∨ a = 16 ∧ 3 ≤ i ∧ i ≤ 7
abbrev chRTl : Nat → Nat → Prop := fun a _ => a = 15 ∨ a = 18
theorem Ch.rt2 {σ s : PS} (c : Ch chR2 chRl σ s) : Ch chRT chRTl σ s := c.mono (fun a k h => by omega) (fun _ _ h => Or.inr h)
theorem rd_end {g : GV} {d : Nat} {P : Int32 → PS → Prop} {s : PS} (hL : Lay s) (hT : mr s 16 4 = some 11) (h : P (mi s 16 6) s) : VX7_read g (d + 1) P 32 [some (.ref 16), none, some (.int (1 + 1)), none] [] s := vcX7_read_32 hL hT _ ⟨fun _ => h, fun q => absurd (by decide) q⟩
theorem sp_read {g : GV} {d : Nat} {L : List Nat} {σ : PS} (hS : HSg g) (hL : Lay σ) (hT : TC σ L) :
    CX7_read g (d + 16) [.ref 16, .ref 11] σ (fun v s => RdA L v s ∧ Ch chRT chRTl (sq σ 16 4 (some 11)) s) := by
  have hl := hT.2.1
  have hn := nt_le (L := L)
  generalize hP : (fun (v : Int32) (s : PS) => RdA L v s ∧ Ch chRT chRTl (sq σ 16 4 (some 11)) s) = P
  refine vcX7_read hL (fun s1 e1 => ?_)
  have hL1 : Lay s1 := by rw [e1]; exact hL.sqT
  have hm1 : mr s1 16 4 = some 11 := by rw [e1]; exact mr_text _
  have hT1 : TC s1 L := by rw [e1]; exact hT
  rw [← e1] at hP
  refine Ct.imp (sp_cut (d := d + 7) hS hL1 hT1) (fun r s3 q => ?_)
  obtain ⟨rfl, hK, c3⟩ := q
  refine ⟨rfl, c3.fr, fun s5 e5 s7 e7 => ?_⟩
  have c3' : Ch chRT chRTl s1 s3 := c3.mono (fun a k h => by omega) (fun _ _ h => Or.inl h)
  have hc : ∀ i, lc L i < 127 := fun i => by
    by_cases h : i < L.length
    · exact (hT1.at h).2.1
    · rw [lc_out (by omega)]; omega
  have c7 : Ch (fun a i => a = 16 ∧ (i = 3 ∨ i = 6)) noL s3 s7 := by rw [e7, e5]; exact (Ch.rf.si (by omega)).si (by omega)
  have c7' : Ch chRT chRTl s3 s7 := c7.mono (fun a k h => by omega) (fun _ _ h => h.elim)
  have hL7 : Lay s7 := (c3'.trans c7').lay hL1
  refine Ct.imp (sp_fill hL7 (kd_17 hL7) (by omega)) (fun r s9 q => ?_)
  obtain ⟨rfl, hf, c9⟩ := q
  have c9' : Ch chRT chRTl s7 s9 := c9.mono (fun a k h => by omega) (fun _ _ h => h.elim)
  have d9 := (c3'.trans c7').trans c9'
  have hL9 := d9.lay hL1
  refine ⟨rfl, c9.fr, ?_⟩
  have hm9 : mr s9 16 4 = some 11 := by rw [d9.1.2]; exact hm1
  have hR9 : RS s9 L 0 n0 := by
    refine ⟨hm9, ?_, hl, ?_, by omega, fun k hk => by omega⟩
    · exact (hK.ch c7 (by omega) (fun i => by omega) (fun i => by omega) (fun i => id)).ch c9 (by omega) (fun i => by omega) (fun i => by omega) (fun i => id)
    · rw [c9.i (by omega), e7, mi_si, if_neg (by omega), e5, mi_si, if_pos ⟨rfl, rfl⟩]; rfl
  have f9 : mi s9 16 6 = 0 := by rw [c9.i (by omega), e7, mi_si, if_pos ⟨rfl, rfl⟩]
  -- what a pass begins with
  have beg : ∀ (s : PS) (v : Int32) (b : Int32), Lay s → ∀ s11, s11 = si s 16 7 b → ∀ s13, s13 = si s11 16 5 0 → CJ7_fill_53178 g (d + 15) [.ref 19, .int 0] s13 (fun s15 => (∀ i, i < 8 → mi s15 19 i = 0) ∧ mi s15 16 7 = b ∧ mi s15 16 5 = nI 0 ∧ Fr s13 s15 ∧ Ch (fun a i => a = 19 ∨ a = 16 ∧ (i = 5 ∨ i = 7)) noL s s15) := by
    intro s v b hLs s11 e11 s13 e13
    have c13 : Ch (fun a i => a = 19 ∨ a = 16 ∧ (i = 5 ∨ i = 7)) noL s s13 := by rw [e13, e11]; exact (Ch.rf.si (by omega)).si (by omega)
    have hL13 := c13.lay hLs
    refine Ct.imp (sp_fill hL13 (kd_19 hL13) (by omega)) (fun r s15 q => ?_)
    obtain ⟨rfl, h1, c15⟩ := q
    refine ⟨rfl, h1, ?_, ?_, c15.fr, c13.trans (c15.mono (fun a k h => Or.inl h.1) (fun _ _ h => h))⟩
    · rw [c15.i (by omega), e13, mi_si, if_neg (by omega), e11, mi_si, if_pos ⟨rfl, rfl⟩]
    · rw [c15.i (by omega), e13, mi_si, if_pos ⟨rfl, rfl⟩]; rfl
  have begT : ∀ s s15, Ch (fun a i => a = 19 ∨ a = 16 ∧ (i = 5 ∨ i = 7)) noL s s15 → Ch chRT chRTl s s15 := fun s s15 c => c.mono (fun a k h => by omega) (fun _ _ h => h.elim)
  have begR : ∀ s s15 t N, Ch (fun a i => a = 19 ∨ a = 16 ∧ (i = 5 ∨ i = 7)) noL s s15 → RS s L t N → RS s15 L t N := fun s s15 t N c h => h.ch c (by omega) (fun i => by omega) (fun i => by omega) (fun i => id) (by omega) (fun i => id)
  refine vcX7_read_32 hL9 hm9 _ ⟨fun h => absurd h (by decide), fun _ => ⟨fun _ s11 e11 s13 e13 => ?_, fun h => absurd h (by decide)⟩⟩
  refine Ct.imp (beg s9 0 0 hL9 s11 e11 s13 e13) (fun r s15 q => ?_)
  obtain ⟨rfl, z1, z2, z3, z4, z5⟩ := q
  refine ⟨rfl, z4, ?_⟩
  have d15 := d9.trans (begT _ _ z5)
  have hL15 := d15.lay hL1
  refine rd1 (d := d) (l2 := 0) hc (nt L + 1) 0 0 0 n0 s15 (by omega) (by omega) (by omega) hL15 (begR _ _ _ _ z5 hR9) z3 (by rw [z5.i (by omega)]; exact f9) z2 (fun s T N er a1 a2 c => ?_) (fun s k j er a1 a2 a3 a4 c => ?_)
  · have dS := d15.trans c.r2.rt2
    have hLs := dS.lay hL1
    refine vcX7_read_32 hLs a1.1 _ ⟨fun h => absurd h (by decide), fun _ => ⟨fun h => absurd (by decide) h, fun _ s17 e17 s19 e19 => ?_⟩⟩
    refine Ct.imp (beg s 0 1 hLs s17 e17 s19 e19) (fun r s21 q => ?_)
    obtain ⟨rfl, y1, y2, y3, y4, y5⟩ := q
    refine ⟨rfl, y4, ?_⟩
    have d21 := dS.trans (begT _ _ y5)
    have hR21 := begR _ _ _ _ y5 a1
    have h8 := hR21.2.2.2.2.1
    have hF : RowsF s21 17 n0 := fun r hr => ⟨by rw [y5.i (by omega), c.i (by omega), z5.i (by omega), hf r hr]; rfl, by show 0 < 65536; omega⟩
    refine rd2 (d := d) (l2 := 1) hc (nt L + 1) 0 0 0 n0 e0 n0 s21 er (by omega) (by omega) (d21.lay hL1) hR21 y3 (by rw [y5.i (by omega)]; exact a2) y2 (fun k hk => y1 k (by omega)) hF (fun s' w er2 b1 b2 c' => ?_) (fun s' k j er2 b1 b2 b3 b4 c' => ?_)
    · have dE := d21.trans c'.rt2
      refine rd_end (dE.lay hL1) (by rw [dE.1.2]; exact hm1) ?_
      rw [← hP]
      exact ⟨Or.inr ⟨w, by rw [rdF_l er]; exact er2, b1, b2⟩, dE⟩
    · have dE := d21.trans c'.rt2
      refine rd_end (dE.lay hL1) (by rw [dE.1.2]; exact hm1) ?_
      rw [← hP]
      exact ⟨Or.inl ⟨k, j, by rw [rdF_l er]; exact er2, b1, b2, b3, b4⟩, dE⟩
  · have dS := d15.trans c.r2.rt2
    have hLs := dS.lay hL1
    have hms : mr s 16 4 = some 11 := by rw [dS.1.2]; exact hm1
    refine vcX7_read_32 hLs hms _ ⟨fun h => absurd h (by decide), fun _ => ⟨fun h => absurd (by decide) h, fun _ s17 e17 s19 e19 => ?_⟩⟩
    refine Ct.imp (beg s 0 1 hLs s17 e17 s19 e19) (fun r s21 q => ?_)
    obtain ⟨rfl, y1, y2, y3, y4, y5⟩ := q
    refine ⟨rfl, y4, ?_⟩
    have d21 := dS.trans (begT _ _ y5)
    have hm21 : mr s21 16 4 = some 11 := by rw [d21.1.2]; exact hm1
    have v21 : mi s21 16 6 = nI (k + 16 * tb L j) := by rw [y5.i (by omega)]; exact a1
    refine rd_bad (d21.lay hL1) hm21 (nB v21 a2 a3 hl) (rd_end (d21.lay hL1) hm21 ?_)
    rw [← hP]
    exact ⟨Or.inl ⟨k, j, rdF_r er, v21, a2, a3, a4⟩, d21⟩
