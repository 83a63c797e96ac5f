section XR
variable {g : GV} {Z : ZC} {own : String} {cc : ByteArray} {nL d mc ms k n pc : Nat} {L : List (Option Value)} {st : List Value} {σ : PS}

theorem x_iconst {z : Int} {v : Int32} (hdg : decode cc pc = .ok (.iconst z, 1)) (hv : Int32.ofInt z = v) (h : X g Z own cc nL d mc ms k n (pc + 1) L (.int v :: st) σ) : X g Z own cc nL d mc ms k n pc L st σ := by
  intro p e R s m args below meth c Q hZ hB hk hn H locs ls hR hS hL
  exact lv_iconst hB.1 hB.2.1 hdg hv (h p e R s m args below meth c Q hZ hB hk hn H locs ls hR hS hL)

theorem x_bipush {z : Int} {v : Int32} (hdg : decode cc pc = .ok (.bipush z, 2)) (hv : (Int8.ofInt z).toInt32 = v) (h : X g Z own cc nL d mc ms k n (pc + 2) L (.int v :: st) σ) : X g Z own cc nL d mc ms k n pc L st σ := by
  intro p e R s m args below meth c Q hZ hB hk hn H locs ls hR hS hL
  exact lv_bipush hB.1 hB.2.1 hdg hv (h p e R s m args below meth c Q hZ hB hk hn H locs ls hR hS hL)

theorem x_sipush {z : Int} {v : Int32} (hdg : decode cc pc = .ok (.sipush z, 3)) (hv : (Int16.ofInt z).toInt32 = v) (h : X g Z own cc nL d mc ms k n (pc + 3) L (.int v :: st) σ) : X g Z own cc nL d mc ms k n pc L st σ := by
  intro p e R s m args below meth c Q hZ hB hk hn H locs ls hR hS hL
  exact lv_sipush hB.1 hB.2.1 hdg hv (h p e R s m args below meth c Q hZ hB hk hn H locs ls hR hS hL)

theorem x_lconst {z : Fin 2} {v : Int64} (hdg : decode cc pc = .ok (.lconst z, 1)) (hv : Int64.ofNat (z : Nat) = v) (h : X g Z own cc nL d mc ms k n (pc + 1) L (.long v :: st) σ) : X g Z own cc nL d mc ms k n pc L st σ := by
  intro p e R s m args below meth c Q hZ hB hk hn H locs ls hR hS hL
  exact lv_lconst hB.1 hB.2.1 hdg hv (h p e R s m args below meth c Q hZ hB hk hn H locs ls hR hS hL)

theorem x_null (hdg : decode cc pc = .ok (.aconst_null, 1)) (h : X g Z own cc nL d mc ms k n (pc + 1) L (.null :: st) σ) : X g Z own cc nL d mc ms k n pc L st σ := by
  intro p e R s m args below meth c Q hZ hB hk hn H locs ls hR hS hL
  exact lv_null hB.1 hB.2.1 hdg (h p e R s m args below meth c Q hZ hB hk hn H locs ls hR hS hL)

theorem x_ldc {ix : Nat} {v : Int32} (hdg : decode cc pc = .ok (.ldc ix, 2)) (hw : Cond.constant own ix v ∈ lwG) (h : X g Z own cc nL d mc ms k n (pc + 2) L (.int v :: st) σ) : X g Z own cc nL d mc ms k n pc L st σ := by
  intro p e R s m args below meth c Q hZ hB hk hn H locs ls hR hS hL
  exact lv_ldc hB.1 hB.2.1 hB.2.2.2.1 (hB.2.2.2.2.1 _ hw) hdg (h p e R s m args below meth c Q hZ hB hk hn H locs ls hR hS hL)

theorem x_ldcw {ix : Nat} {v : Int32} (hdg : decode cc pc = .ok (.ldc_w ix, 3)) (hw : Cond.constant own ix v ∈ lwG) (h : X g Z own cc nL d mc ms k n (pc + 3) L (.int v :: st) σ) : X g Z own cc nL d mc ms k n pc L st σ := by
  intro p e R s m args below meth c Q hZ hB hk hn H locs ls hR hS hL
  exact lv_ldcw hB.1 hB.2.1 hB.2.2.2.1 (hB.2.2.2.2.1 _ hw) hdg (h p e R s m args below meth c Q hZ hB hk hn H locs ls hR hS hL)

theorem x_ldc2 {ix : Nat} {v : Int64} (hdg : decode cc pc = .ok (.ldc2_w ix, 3)) (hw : Cond.constantLong own ix v ∈ lwG) (h : X g Z own cc nL d mc ms k n (pc + 3) L (.long v :: st) σ) : X g Z own cc nL d mc ms k n pc L st σ := by
  intro p e R s m args below meth c Q hZ hB hk hn H locs ls hR hS hL
  exact lv_ldc2 hB.1 hB.2.1 hB.2.2.2.1 (hB.2.2.2.2.1 _ hw) hdg (h p e R s m args below meth c Q hZ hB hk hn H locs ls hR hS hL)

theorem x_iload_n {q : Fin 4} {i : Nat} {x : Int32} (hdg : decode cc pc = .ok (.iload_n q, 1)) (hi : (q : Nat) = i) (hl : L[i]? = some (some (.int x))) (h : X g Z own cc nL d mc ms k n (pc + 1) L (.int x :: st) σ) : X g Z own cc nL d mc ms k n pc L st σ := by
  intro p e R s m args below meth c Q hZ hB hk hn H locs ls hR hS hL
  exact lv_iload_n hB.1 hB.2.1 hdg hi (hL.2.2 i _ hl) (h p e R s m args below meth c Q hZ hB hk hn H locs ls hR hS hL)

theorem x_iload {i : Nat} {x : Int32} (hdg : decode cc pc = .ok (.iload i, 2)) (hl : L[i]? = some (some (.int x))) (h : X g Z own cc nL d mc ms k n (pc + 2) L (.int x :: st) σ) : X g Z own cc nL d mc ms k n pc L st σ := by
  intro p e R s m args below meth c Q hZ hB hk hn H locs ls hR hS hL
  exact lv_iload hB.1 hB.2.1 hdg (hL.2.2 i _ hl) (h p e R s m args below meth c Q hZ hB hk hn H locs ls hR hS hL)

theorem x_lload_n {q : Fin 4} {i : Nat} {x : Int64} (hdg : decode cc pc = .ok (.lload_n q, 1)) (hi : (q : Nat) = i) (hl : L[i]? = some (some (.long x))) (h : X g Z own cc nL d mc ms k n (pc + 1) L (.long x :: st) σ) : X g Z own cc nL d mc ms k n pc L st σ := by
  intro p e R s m args below meth c Q hZ hB hk hn H locs ls hR hS hL
  exact lv_lload_n hB.1 hB.2.1 hdg hi (hL.2.2 i _ hl) (h p e R s m args below meth c Q hZ hB hk hn H locs ls hR hS hL)

theorem x_lload {i : Nat} {x : Int64} (hdg : decode cc pc = .ok (.lload i, 2)) (hl : L[i]? = some (some (.long x))) (h : X g Z own cc nL d mc ms k n (pc + 2) L (.long x :: st) σ) : X g Z own cc nL d mc ms k n pc L st σ := by
  intro p e R s m args below meth c Q hZ hB hk hn H locs ls hR hS hL
  exact lv_lload hB.1 hB.2.1 hdg (hL.2.2 i _ hl) (h p e R s m args below meth c Q hZ hB hk hn H locs ls hR hS hL)

theorem x_aload_n {q : Fin 4} {i : Nat} {x : Nat} (hdg : decode cc pc = .ok (.aload_n q, 1)) (hi : (q : Nat) = i) (hl : L[i]? = some (some (.ref x))) (h : X g Z own cc nL d mc ms k n (pc + 1) L (.ref x :: st) σ) : X g Z own cc nL d mc ms k n pc L st σ := by
  intro p e R s m args below meth c Q hZ hB hk hn H locs ls hR hS hL
  exact lv_aload_n hB.1 hB.2.1 hdg hi (hL.2.2 i _ hl) (h p e R s m args below meth c Q hZ hB hk hn H locs ls hR hS hL)

theorem x_aload {i : Nat} {x : Nat} (hdg : decode cc pc = .ok (.aload i, 2)) (hl : L[i]? = some (some (.ref x))) (h : X g Z own cc nL d mc ms k n (pc + 2) L (.ref x :: st) σ) : X g Z own cc nL d mc ms k n pc L st σ := by
  intro p e R s m args below meth c Q hZ hB hk hn H locs ls hR hS hL
  exact lv_aload hB.1 hB.2.1 hdg (hL.2.2 i _ hl) (h p e R s m args below meth c Q hZ hB hk hn H locs ls hR hS hL)

theorem x_istore_n {q : Fin 4} {i : Nat} {x : Int32} {L1 : List (Option Value)} (hdg : decode cc pc = .ok (.istore_n q, 1)) (hi : (q : Nat) = i) (hn : i < nL) (ho : okL L i = true) (hL1 : L.set i (some (.int x)) = L1) (h : X g Z own cc nL d mc ms k n (pc + 1) L1 st σ) : X g Z own cc nL d mc ms k n pc L (.int x :: st) σ := by
  intro p e R s m args below meth c Q hZ hB hk hn H locs ls hR hS hL
  subst hL1
  exact lv_istore_n hB.1 hB.2.1 hdg hi (hL.hs (prs L) (fun q hq => prs_of hq)) (by assumption) rfl (fun ls1 hl1 => h p e R s m args below meth c Q hZ hB hk (by assumption) H locs ls1 hR hS (LR.set1 (v := .int x) ho hl1))

theorem x_istore {i : Nat} {x : Int32} {L1 : List (Option Value)} (hdg : decode cc pc = .ok (.istore i, 2)) (hn : i < nL) (ho : okL L i = true) (hL1 : L.set i (some (.int x)) = L1) (h : X g Z own cc nL d mc ms k n (pc + 2) L1 st σ) : X g Z own cc nL d mc ms k n pc L (.int x :: st) σ := by
  intro p e R s m args below meth c Q hZ hB hk hn H locs ls hR hS hL
  subst hL1
  exact lv_istore hB.1 hB.2.1 hdg (hL.hs (prs L) (fun q hq => prs_of hq)) (by assumption) rfl (fun ls1 hl1 => h p e R s m args below meth c Q hZ hB hk (by assumption) H locs ls1 hR hS (LR.set1 (v := .int x) ho hl1))

theorem x_astore_n {q : Fin 4} {i : Nat} {x : Nat} {L1 : List (Option Value)} (hdg : decode cc pc = .ok (.astore_n q, 1)) (hi : (q : Nat) = i) (hn : i < nL) (ho : okL L i = true) (hL1 : L.set i (some (.ref x)) = L1) (h : X g Z own cc nL d mc ms k n (pc + 1) L1 st σ) : X g Z own cc nL d mc ms k n pc L (.ref x :: st) σ := by
  intro p e R s m args below meth c Q hZ hB hk hn H locs ls hR hS hL
  subst hL1
  exact lv_astore_n hB.1 hB.2.1 hdg hi (hL.hs (prs L) (fun q hq => prs_of hq)) (by assumption) rfl (fun ls1 hl1 => h p e R s m args below meth c Q hZ hB hk (by assumption) H locs ls1 hR hS (LR.set1 (v := .ref x) ho hl1))

theorem x_astore {i : Nat} {x : Nat} {L1 : List (Option Value)} (hdg : decode cc pc = .ok (.astore i, 2)) (hn : i < nL) (ho : okL L i = true) (hL1 : L.set i (some (.ref x)) = L1) (h : X g Z own cc nL d mc ms k n (pc + 2) L1 st σ) : X g Z own cc nL d mc ms k n pc L (.ref x :: st) σ := by
  intro p e R s m args below meth c Q hZ hB hk hn H locs ls hR hS hL
  subst hL1
  exact lv_astore hB.1 hB.2.1 hdg (hL.hs (prs L) (fun q hq => prs_of hq)) (by assumption) rfl (fun ls1 hl1 => h p e R s m args below meth c Q hZ hB hk (by assumption) H locs ls1 hR hS (LR.set1 (v := .ref x) ho hl1))

theorem x_lstore_n {q : Fin 4} {i : Nat} {x : Int64} {L1 : List (Option Value)} (hdg : decode cc pc = .ok (.lstore_n q, 1)) (hi : (q : Nat) = i) (hn : i + 1 < nL) (ho : okL L i = true) (hL1 : (L.set i (some (.long x))).set (i + 1) none = L1) (h : X g Z own cc nL d mc ms k n (pc + 1) L1 st σ) : X g Z own cc nL d mc ms k n pc L (.long x :: st) σ := by
  intro p e R s m args below meth c Q hZ hB hk hn H locs ls hR hS hL
  subst hL1
  exact lv_lstore_n hB.1 hB.2.1 hdg hi (hL.hs (prs L) (fun q hq => prs_of hq)) (by assumption) rfl (fun ls1 hl1 => h p e R s m args below meth c Q hZ hB hk (by assumption) H locs ls1 hR hS (LR.set2 (v := .long x) ho hl1))

theorem x_lstore {i : Nat} {x : Int64} {L1 : List (Option Value)} (hdg : decode cc pc = .ok (.lstore i, 2)) (hn : i + 1 < nL) (ho : okL L i = true) (hL1 : (L.set i (some (.long x))).set (i + 1) none = L1) (h : X g Z own cc nL d mc ms k n (pc + 2) L1 st σ) : X g Z own cc nL d mc ms k n pc L (.long x :: st) σ := by
  intro p e R s m args below meth c Q hZ hB hk hn H locs ls hR hS hL
  subst hL1
  exact lv_lstore hB.1 hB.2.1 hdg (hL.hs (prs L) (fun q hq => prs_of hq)) (by assumption) rfl (fun ls1 hl1 => h p e R s m args below meth c Q hZ hB hk (by assumption) H locs ls1 hR hS (LR.set2 (v := .long x) ho hl1))

theorem x_iinc {i : Nat} {z : Int} {x v : Int32} {L1 : List (Option Value)} (hdg : decode cc pc = .ok (.iinc i z, 3)) (hl : L[i]? = some (some (.int x))) (hv : x + Int32.ofInt z = v) (hn : i < nL) (ho : okL L i = true) (hL1 : L.set i (some (.int v)) = L1) (h : X g Z own cc nL d mc ms k n (pc + 3) L1 st σ) : X g Z own cc nL d mc ms k n pc L st σ := by
  intro p e R s m args below meth c Q hZ hB hk hn H locs ls hR hS hL
  subst hL1
  have hm := prs_mem hl
  obtain ⟨j, hj⟩ := List.getElem?_of_mem (List.mem_map.mpr ⟨_, hm, rfl⟩ : (i, mv g (.int x)) ∈ (prs L).map fun q => (q.1, mv g q.2))
  exact lv_iinc hB.1 hB.2.1 hdg (hL.hs (prs L) (fun q hq => prs_of hq)) (k := j) hj hv (by assumption) rfl (fun ls1 hl1 => h p e R s m args below meth c Q hZ hB hk (by assumption) H locs ls1 hR hS (LR.set1 (v := .int v) ho hl1))

theorem x_iadd {x y : Int32} (hdg : decode cc pc = .ok (.iadd, 1)) (h : X g Z own cc nL d mc ms k n (pc + 1) L (.int (x + y) :: st) σ) : X g Z own cc nL d mc ms k n pc L (.int y :: .int x :: st) σ := by
  intro p e R s m args below meth c Q hZ hB hk hn H locs ls hR hS hL
  exact lv_iadd hB.1 hB.2.1 hdg (h p e R s m args below meth c Q hZ hB hk hn H locs ls hR hS hL)

theorem x_isub {x y : Int32} (hdg : decode cc pc = .ok (.isub, 1)) (h : X g Z own cc nL d mc ms k n (pc + 1) L (.int (x - y) :: st) σ) : X g Z own cc nL d mc ms k n pc L (.int y :: .int x :: st) σ := by
  intro p e R s m args below meth c Q hZ hB hk hn H locs ls hR hS hL
  exact lv_isub hB.1 hB.2.1 hdg (h p e R s m args below meth c Q hZ hB hk hn H locs ls hR hS hL)

theorem x_imul {x y : Int32} (hdg : decode cc pc = .ok (.imul, 1)) (h : X g Z own cc nL d mc ms k n (pc + 1) L (.int (x * y) :: st) σ) : X g Z own cc nL d mc ms k n pc L (.int y :: .int x :: st) σ := by
  intro p e R s m args below meth c Q hZ hB hk hn H locs ls hR hS hL
  exact lv_imul hB.1 hB.2.1 hdg (h p e R s m args below meth c Q hZ hB hk hn H locs ls hR hS hL)

theorem x_iand {x y : Int32} (hdg : decode cc pc = .ok (.iand, 1)) (h : X g Z own cc nL d mc ms k n (pc + 1) L (.int (x &&& y) :: st) σ) : X g Z own cc nL d mc ms k n pc L (.int y :: .int x :: st) σ := by
  intro p e R s m args below meth c Q hZ hB hk hn H locs ls hR hS hL
  exact lv_iand hB.1 hB.2.1 hdg (h p e R s m args below meth c Q hZ hB hk hn H locs ls hR hS hL)

theorem x_ior {x y : Int32} (hdg : decode cc pc = .ok (.ior, 1)) (h : X g Z own cc nL d mc ms k n (pc + 1) L (.int (x ||| y) :: st) σ) : X g Z own cc nL d mc ms k n pc L (.int y :: .int x :: st) σ := by
  intro p e R s m args below meth c Q hZ hB hk hn H locs ls hR hS hL
  exact lv_ior hB.1 hB.2.1 hdg (h p e R s m args below meth c Q hZ hB hk hn H locs ls hR hS hL)

theorem x_ixor {x y : Int32} (hdg : decode cc pc = .ok (.ixor, 1)) (h : X g Z own cc nL d mc ms k n (pc + 1) L (.int (x ^^^ y) :: st) σ) : X g Z own cc nL d mc ms k n pc L (.int y :: .int x :: st) σ := by
  intro p e R s m args below meth c Q hZ hB hk hn H locs ls hR hS hL
  exact lv_ixor hB.1 hB.2.1 hdg (h p e R s m args below meth c Q hZ hB hk hn H locs ls hR hS hL)

theorem x_ishl {x y : Int32} (hdg : decode cc pc = .ok (.ishl, 1)) (h : X g Z own cc nL d mc ms k n (pc + 1) L (.int (x <<< (y &&& 31)) :: st) σ) : X g Z own cc nL d mc ms k n pc L (.int y :: .int x :: st) σ := by
  intro p e R s m args below meth c Q hZ hB hk hn H locs ls hR hS hL
  exact lv_ishl hB.1 hB.2.1 hdg (h p e R s m args below meth c Q hZ hB hk hn H locs ls hR hS hL)

theorem x_ishr {x y : Int32} (hdg : decode cc pc = .ok (.ishr, 1)) (h : X g Z own cc nL d mc ms k n (pc + 1) L (.int (x >>> (y &&& 31)) :: st) σ) : X g Z own cc nL d mc ms k n pc L (.int y :: .int x :: st) σ := by
  intro p e R s m args below meth c Q hZ hB hk hn H locs ls hR hS hL
  exact lv_ishr hB.1 hB.2.1 hdg (h p e R s m args below meth c Q hZ hB hk hn H locs ls hR hS hL)

theorem x_idiv {x y : Int32} (hdg : decode cc pc = .ok (.idiv, 1)) (hne : ¬ y = 0) (h : X g Z own cc nL d mc ms k n (pc + 1) L (.int (x / y) :: st) σ) : X g Z own cc nL d mc ms k n pc L (.int y :: .int x :: st) σ := by
  intro p e R s m args below meth c Q hZ hB hk hn H locs ls hR hS hL
  exact lv_idiv hB.1 hB.2.1 hdg hne (h p e R s m args below meth c Q hZ hB hk hn H locs ls hR hS hL)

theorem x_irem {x y : Int32} (hdg : decode cc pc = .ok (.irem, 1)) (hne : ¬ y = 0) (h : X g Z own cc nL d mc ms k n (pc + 1) L (.int (x - x / y * y) :: st) σ) : X g Z own cc nL d mc ms k n pc L (.int y :: .int x :: st) σ := by
  intro p e R s m args below meth c Q hZ hB hk hn H locs ls hR hS hL
  exact lv_irem hB.1 hB.2.1 hdg hne (h p e R s m args below meth c Q hZ hB hk hn H locs ls hR hS hL)

theorem x_ineg {x : Int32} (hdg : decode cc pc = .ok (.ineg, 1)) (h : X g Z own cc nL d mc ms k n (pc + 1) L (.int (-x) :: st) σ) : X g Z own cc nL d mc ms k n pc L (.int x :: st) σ := by
  intro p e R s m args below meth c Q hZ hB hk hn H locs ls hR hS hL
  exact lv_ineg hB.1 hB.2.1 hdg (h p e R s m args below meth c Q hZ hB hk hn H locs ls hR hS hL)

theorem x_ladd {x y : Int64} (hdg : decode cc pc = .ok (.ladd, 1)) (h : X g Z own cc nL d mc ms k n (pc + 1) L (.long (x + y) :: st) σ) : X g Z own cc nL d mc ms k n pc L (.long y :: .long x :: st) σ := by
  intro p e R s m args below meth c Q hZ hB hk hn H locs ls hR hS hL
  exact lv_ladd hB.1 hB.2.1 hdg (h p e R s m args below meth c Q hZ hB hk hn H locs ls hR hS hL)

theorem x_lsub {x y : Int64} (hdg : decode cc pc = .ok (.lsub, 1)) (h : X g Z own cc nL d mc ms k n (pc + 1) L (.long (x - y) :: st) σ) : X g Z own cc nL d mc ms k n pc L (.long y :: .long x :: st) σ := by
  intro p e R s m args below meth c Q hZ hB hk hn H locs ls hR hS hL
  exact lv_lsub hB.1 hB.2.1 hdg (h p e R s m args below meth c Q hZ hB hk hn H locs ls hR hS hL)

theorem x_lmul {x y : Int64} (hdg : decode cc pc = .ok (.lmul, 1)) (h : X g Z own cc nL d mc ms k n (pc + 1) L (.long (x * y) :: st) σ) : X g Z own cc nL d mc ms k n pc L (.long y :: .long x :: st) σ := by
  intro p e R s m args below meth c Q hZ hB hk hn H locs ls hR hS hL
  exact lv_lmul hB.1 hB.2.1 hdg (h p e R s m args below meth c Q hZ hB hk hn H locs ls hR hS hL)

theorem x_land {x y : Int64} (hdg : decode cc pc = .ok (.land, 1)) (h : X g Z own cc nL d mc ms k n (pc + 1) L (.long (x &&& y) :: st) σ) : X g Z own cc nL d mc ms k n pc L (.long y :: .long x :: st) σ := by
  intro p e R s m args below meth c Q hZ hB hk hn H locs ls hR hS hL
  exact lv_land hB.1 hB.2.1 hdg (h p e R s m args below meth c Q hZ hB hk hn H locs ls hR hS hL)

theorem x_lor {x y : Int64} (hdg : decode cc pc = .ok (.lor, 1)) (h : X g Z own cc nL d mc ms k n (pc + 1) L (.long (x ||| y) :: st) σ) : X g Z own cc nL d mc ms k n pc L (.long y :: .long x :: st) σ := by
  intro p e R s m args below meth c Q hZ hB hk hn H locs ls hR hS hL
  exact lv_lor hB.1 hB.2.1 hdg (h p e R s m args below meth c Q hZ hB hk hn H locs ls hR hS hL)

theorem x_lxor {x y : Int64} (hdg : decode cc pc = .ok (.lxor, 1)) (h : X g Z own cc nL d mc ms k n (pc + 1) L (.long (x ^^^ y) :: st) σ) : X g Z own cc nL d mc ms k n pc L (.long y :: .long x :: st) σ := by
  intro p e R s m args below meth c Q hZ hB hk hn H locs ls hR hS hL
  exact lv_lxor hB.1 hB.2.1 hdg (h p e R s m args below meth c Q hZ hB hk hn H locs ls hR hS hL)

theorem x_i2l {x : Int32} (hdg : decode cc pc = .ok (.i2l, 1)) (h : X g Z own cc nL d mc ms k n (pc + 1) L (.long x.toInt64 :: st) σ) : X g Z own cc nL d mc ms k n pc L (.int x :: st) σ := by
  intro p e R s m args below meth c Q hZ hB hk hn H locs ls hR hS hL
  exact lv_i2l hB.1 hB.2.1 hdg rfl (h p e R s m args below meth c Q hZ hB hk hn H locs ls hR hS hL)

theorem x_l2i {x : Int64} (hdg : decode cc pc = .ok (.l2i, 1)) (h : X g Z own cc nL d mc ms k n (pc + 1) L (.int x.toInt32 :: st) σ) : X g Z own cc nL d mc ms k n pc L (.long x :: st) σ := by
  intro p e R s m args below meth c Q hZ hB hk hn H locs ls hR hS hL
  exact lv_l2i hB.1 hB.2.1 hdg rfl (h p e R s m args below meth c Q hZ hB hk hn H locs ls hR hS hL)

theorem x_i2b {x : Int32} (hdg : decode cc pc = .ok (.i2b, 1)) (h : X g Z own cc nL d mc ms k n (pc + 1) L (.int x.toInt8.toInt32 :: st) σ) : X g Z own cc nL d mc ms k n pc L (.int x :: st) σ := by
  intro p e R s m args below meth c Q hZ hB hk hn H locs ls hR hS hL
  exact lv_i2b hB.1 hB.2.1 hdg rfl (h p e R s m args below meth c Q hZ hB hk hn H locs ls hR hS hL)

theorem x_i2c {x : Int32} (hdg : decode cc pc = .ok (.i2c, 1)) (h : X g Z own cc nL d mc ms k n (pc + 1) L (.int (x.toUInt32 % 65536).toInt32 :: st) σ) : X g Z own cc nL d mc ms k n pc L (.int x :: st) σ := by
  intro p e R s m args below meth c Q hZ hB hk hn H locs ls hR hS hL
  exact lv_i2c hB.1 hB.2.1 hdg rfl (h p e R s m args below meth c Q hZ hB hk hn H locs ls hR hS hL)

theorem x_iushr {x y : Int32} (hdg : decode cc pc = .ok (.iushr, 1)) (h : X g Z own cc nL d mc ms k n (pc + 1) L (.int (x.toUInt32 >>> (y.toUInt32 &&& Int32.toUInt32 31)).toInt32 :: st) σ) : X g Z own cc nL d mc ms k n pc L (.int y :: .int x :: st) σ := by
  intro p e R s m args below meth c Q hZ hB hk hn H locs ls hR hS hL
  exact lv_iushr hB.1 hB.2.1 hdg rfl (h p e R s m args below meth c Q hZ hB hk hn H locs ls hR hS hL)

theorem x_lushr {x : Int64} {y : Int32} (hdg : decode cc pc = .ok (.lushr, 1)) (h : X g Z own cc nL d mc ms k n (pc + 1) L (.long (x.toUInt64 >>> (y.toInt64.toUInt64 &&& Int64.toUInt64 63)).toInt64 :: st) σ) : X g Z own cc nL d mc ms k n pc L (.int y :: .long x :: st) σ := by
  intro p e R s m args below meth c Q hZ hB hk hn H locs ls hR hS hL
  exact lv_lushr hB.1 hB.2.1 hdg rfl (h p e R s m args below meth c Q hZ hB hk hn H locs ls hR hS hL)

theorem x_lshl {x : Int64} {y : Int32} (hdg : decode cc pc = .ok (.lshl, 1)) (h : X g Z own cc nL d mc ms k n (pc + 1) L (.long (x <<< (y.toInt64 &&& 63)) :: st) σ) : X g Z own cc nL d mc ms k n pc L (.int y :: .long x :: st) σ := by
  intro p e R s m args below meth c Q hZ hB hk hn H locs ls hR hS hL
  exact lv_lshl hB.1 hB.2.1 hdg rfl (h p e R s m args below meth c Q hZ hB hk hn H locs ls hR hS hL)

theorem x_lcmp {x y : Int64} (hdg : decode cc pc = .ok (.lcmp, 1)) (h : X g Z own cc nL d mc ms k n (pc + 1) L (.int (lg_cmp x y) :: st) σ) : X g Z own cc nL d mc ms k n pc L (.long y :: .long x :: st) σ := by
  intro p e R s m args below meth c Q hZ hB hk hn H locs ls hR hS hL
  exact W.lcmp hB.1 hB.2.1 hdg (h p e R s m args below meth c Q hZ hB hk hn H locs ls hR hS hL)

theorem x_dup {v : Value} (hdg : decode cc pc = .ok (.dup, 1)) (hc : v.category = 1) (h : X g Z own cc nL d mc ms k n (pc + 1) L (v :: v :: st) σ) : X g Z own cc nL d mc ms k n pc L (v :: st) σ := by
  intro p e R s m args below meth c Q hZ hB hk hn H locs ls hR hS hL
  exact lv_dup hB.1 hB.2.1 hdg (by rw [mv_cat]; exact hc) (h p e R s m args below meth c Q hZ hB hk hn H locs ls hR hS hL)

theorem x_pop {v : Value} (hdg : decode cc pc = .ok (.pop, 1)) (hc : v.category = 1) (h : X g Z own cc nL d mc ms k n (pc + 1) L st σ) : X g Z own cc nL d mc ms k n pc L (v :: st) σ := by
  intro p e R s m args below meth c Q hZ hB hk hn H locs ls hR hS hL
  exact lv_pop hB.1 hB.2.1 hdg (by rw [mv_cat]; exact hc) (h p e R s m args below meth c Q hZ hB hk hn H locs ls hR hS hL)

theorem x_dup2 {v w : Value} (hdg : decode cc pc = .ok (.dup2, 1)) (hc : v.category = 1) (hc2 : w.category = 1) (h : X g Z own cc nL d mc ms k n (pc + 1) L (v :: w :: v :: w :: st) σ) : X g Z own cc nL d mc ms k n pc L (v :: w :: st) σ := by
  intro p e R s m args below meth c Q hZ hB hk hn H locs ls hR hS hL
  exact lv_dup2_11 hB.1 hB.2.1 hdg (by rw [mv_cat]; exact hc) (by rw [mv_cat]; exact hc2) (h p e R s m args below meth c Q hZ hB hk hn H locs ls hR hS hL)

theorem x_goto {off : Int} {tgt : Nat} (hdg : decode cc pc = .ok (.goto off, 3)) (ht : (pc : Int) + off = (tgt : Int)) (h : X g Z own cc nL d mc ms k n tgt L st σ) : X g Z own cc nL d mc ms k n pc L st σ := by
  intro p e R s m args below meth c Q hZ hB hk hn H locs ls hR hS hL
  exact lv_goto hB.1 hB.2.1 hdg ht (h p e R s m args below meth c Q hZ hB hk hn H locs ls hR hS hL)

theorem x_if_eq {x : Int32} {off : Int} {tgt : Nat} (hdg : decode cc pc = .ok (.ifCond .eq off, 3)) (ht : (pc : Int) + off = (tgt : Int)) (kt : x = 0 → X g Z own cc nL d mc ms k n tgt L st σ) (kf : ¬ x = 0 → X g Z own cc nL d mc ms k n (pc + 3) L st σ) : X g Z own cc nL d mc ms k n pc L (.int x :: st) σ := by
  intro p e R s m args below meth c Q hZ hB hk hn H locs ls hR hS hL
  exact lv_if_eq hB.1 hB.2.1 hdg ht (fun q => kt q p e R s m args below meth c Q hZ hB hk hn H locs ls hR hS hL) (fun q => kf q p e R s m args below meth c Q hZ hB hk hn H locs ls hR hS hL)

theorem x_icmp_eq {x y : Int32} {off : Int} {tgt : Nat} (hdg : decode cc pc = .ok (.if_icmp .eq off, 3)) (ht : (pc : Int) + off = (tgt : Int)) (kt : x = y → X g Z own cc nL d mc ms k n tgt L st σ) (kf : ¬ x = y → X g Z own cc nL d mc ms k n (pc + 3) L st σ) : X g Z own cc nL d mc ms k n pc L (.int y :: .int x :: st) σ := by
  intro p e R s m args below meth c Q hZ hB hk hn H locs ls hR hS hL
  exact lv_icmp_eq hB.1 hB.2.1 hdg ht (fun q => kt q p e R s m args below meth c Q hZ hB hk hn H locs ls hR hS hL) (fun q => kf q p e R s m args below meth c Q hZ hB hk hn H locs ls hR hS hL)

theorem x_if_ne {x : Int32} {off : Int} {tgt : Nat} (hdg : decode cc pc = .ok (.ifCond .ne off, 3)) (ht : (pc : Int) + off = (tgt : Int)) (kt : ¬ x = 0 → X g Z own cc nL d mc ms k n tgt L st σ) (kf : x = 0 → X g Z own cc nL d mc ms k n (pc + 3) L st σ) : X g Z own cc nL d mc ms k n pc L (.int x :: st) σ := by
  intro p e R s m args below meth c Q hZ hB hk hn H locs ls hR hS hL
  exact lv_if_ne hB.1 hB.2.1 hdg ht (fun q => kt q p e R s m args below meth c Q hZ hB hk hn H locs ls hR hS hL) (fun q => kf q p e R s m args below meth c Q hZ hB hk hn H locs ls hR hS hL)

theorem x_icmp_ne {x y : Int32} {off : Int} {tgt : Nat} (hdg : decode cc pc = .ok (.if_icmp .ne off, 3)) (ht : (pc : Int) + off = (tgt : Int)) (kt : ¬ x = y → X g Z own cc nL d mc ms k n tgt L st σ) (kf : x = y → X g Z own cc nL d mc ms k n (pc + 3) L st σ) : X g Z own cc nL d mc ms k n pc L (.int y :: .int x :: st) σ := by
  intro p e R s m args below meth c Q hZ hB hk hn H locs ls hR hS hL
  exact lv_icmp_ne hB.1 hB.2.1 hdg ht (fun q => kt q p e R s m args below meth c Q hZ hB hk hn H locs ls hR hS hL) (fun q => kf q p e R s m args below meth c Q hZ hB hk hn H locs ls hR hS hL)

theorem x_if_lt {x : Int32} {off : Int} {tgt : Nat} (hdg : decode cc pc = .ok (.ifCond .lt off, 3)) (ht : (pc : Int) + off = (tgt : Int)) (kt : x < 0 → X g Z own cc nL d mc ms k n tgt L st σ) (kf : ¬ x < 0 → X g Z own cc nL d mc ms k n (pc + 3) L st σ) : X g Z own cc nL d mc ms k n pc L (.int x :: st) σ := by
  intro p e R s m args below meth c Q hZ hB hk hn H locs ls hR hS hL
  exact lv_if_lt hB.1 hB.2.1 hdg ht (fun q => kt q p e R s m args below meth c Q hZ hB hk hn H locs ls hR hS hL) (fun q => kf q p e R s m args below meth c Q hZ hB hk hn H locs ls hR hS hL)

theorem x_icmp_lt {x y : Int32} {off : Int} {tgt : Nat} (hdg : decode cc pc = .ok (.if_icmp .lt off, 3)) (ht : (pc : Int) + off = (tgt : Int)) (kt : x < y → X g Z own cc nL d mc ms k n tgt L st σ) (kf : ¬ x < y → X g Z own cc nL d mc ms k n (pc + 3) L st σ) : X g Z own cc nL d mc ms k n pc L (.int y :: .int x :: st) σ := by
  intro p e R s m args below meth c Q hZ hB hk hn H locs ls hR hS hL
  exact lv_icmp_lt hB.1 hB.2.1 hdg ht (fun q => kt q p e R s m args below meth c Q hZ hB hk hn H locs ls hR hS hL) (fun q => kf q p e R s m args below meth c Q hZ hB hk hn H locs ls hR hS hL)

theorem x_if_ge {x : Int32} {off : Int} {tgt : Nat} (hdg : decode cc pc = .ok (.ifCond .ge off, 3)) (ht : (pc : Int) + off = (tgt : Int)) (kt : 0 ≤ x → X g Z own cc nL d mc ms k n tgt L st σ) (kf : ¬ 0 ≤ x → X g Z own cc nL d mc ms k n (pc + 3) L st σ) : X g Z own cc nL d mc ms k n pc L (.int x :: st) σ := by
  intro p e R s m args below meth c Q hZ hB hk hn H locs ls hR hS hL
  exact lv_if_ge hB.1 hB.2.1 hdg ht (fun q => kt q p e R s m args below meth c Q hZ hB hk hn H locs ls hR hS hL) (fun q => kf q p e R s m args below meth c Q hZ hB hk hn H locs ls hR hS hL)

theorem x_icmp_ge {x y : Int32} {off : Int} {tgt : Nat} (hdg : decode cc pc = .ok (.if_icmp .ge off, 3)) (ht : (pc : Int) + off = (tgt : Int)) (kt : y ≤ x → X g Z own cc nL d mc ms k n tgt L st σ) (kf : ¬ y ≤ x → X g Z own cc nL d mc ms k n (pc + 3) L st σ) : X g Z own cc nL d mc ms k n pc L (.int y :: .int x :: st) σ := by
  intro p e R s m args below meth c Q hZ hB hk hn H locs ls hR hS hL
  exact lv_icmp_ge hB.1 hB.2.1 hdg ht (fun q => kt q p e R s m args below meth c Q hZ hB hk hn H locs ls hR hS hL) (fun q => kf q p e R s m args below meth c Q hZ hB hk hn H locs ls hR hS hL)

theorem x_if_gt {x : Int32} {off : Int} {tgt : Nat} (hdg : decode cc pc = .ok (.ifCond .gt off, 3)) (ht : (pc : Int) + off = (tgt : Int)) (kt : 0 < x → X g Z own cc nL d mc ms k n tgt L st σ) (kf : ¬ 0 < x → X g Z own cc nL d mc ms k n (pc + 3) L st σ) : X g Z own cc nL d mc ms k n pc L (.int x :: st) σ := by
  intro p e R s m args below meth c Q hZ hB hk hn H locs ls hR hS hL
  exact lv_if_gt hB.1 hB.2.1 hdg ht (fun q => kt q p e R s m args below meth c Q hZ hB hk hn H locs ls hR hS hL) (fun q => kf q p e R s m args below meth c Q hZ hB hk hn H locs ls hR hS hL)

theorem x_icmp_gt {x y : Int32} {off : Int} {tgt : Nat} (hdg : decode cc pc = .ok (.if_icmp .gt off, 3)) (ht : (pc : Int) + off = (tgt : Int)) (kt : y < x → X g Z own cc nL d mc ms k n tgt L st σ) (kf : ¬ y < x → X g Z own cc nL d mc ms k n (pc + 3) L st σ) : X g Z own cc nL d mc ms k n pc L (.int y :: .int x :: st) σ := by
  intro p e R s m args below meth c Q hZ hB hk hn H locs ls hR hS hL
  exact lv_icmp_gt hB.1 hB.2.1 hdg ht (fun q => kt q p e R s m args below meth c Q hZ hB hk hn H locs ls hR hS hL) (fun q => kf q p e R s m args below meth c Q hZ hB hk hn H locs ls hR hS hL)

theorem x_if_le {x : Int32} {off : Int} {tgt : Nat} (hdg : decode cc pc = .ok (.ifCond .le off, 3)) (ht : (pc : Int) + off = (tgt : Int)) (kt : x ≤ 0 → X g Z own cc nL d mc ms k n tgt L st σ) (kf : ¬ x ≤ 0 → X g Z own cc nL d mc ms k n (pc + 3) L st σ) : X g Z own cc nL d mc ms k n pc L (.int x :: st) σ := by
  intro p e R s m args below meth c Q hZ hB hk hn H locs ls hR hS hL
  exact lv_if_le hB.1 hB.2.1 hdg ht (fun q => kt q p e R s m args below meth c Q hZ hB hk hn H locs ls hR hS hL) (fun q => kf q p e R s m args below meth c Q hZ hB hk hn H locs ls hR hS hL)

theorem x_icmp_le {x y : Int32} {off : Int} {tgt : Nat} (hdg : decode cc pc = .ok (.if_icmp .le off, 3)) (ht : (pc : Int) + off = (tgt : Int)) (kt : x ≤ y → X g Z own cc nL d mc ms k n tgt L st σ) (kf : ¬ x ≤ y → X g Z own cc nL d mc ms k n (pc + 3) L st σ) : X g Z own cc nL d mc ms k n pc L (.int y :: .int x :: st) σ := by
  intro p e R s m args below meth c Q hZ hB hk hn H locs ls hR hS hL
  exact lv_icmp_le hB.1 hB.2.1 hdg ht (fun q => kt q p e R s m args below meth c Q hZ hB hk hn H locs ls hR hS hL) (fun q => kf q p e R s m args below meth c Q hZ hB hk hn H locs ls hR hS hL)

theorem x_tableOut {dflt lo hi : Int} {offs : Array Int} {len : Nat} {x : Int32} {tgt : Nat} (hdg : decode cc pc = .ok (.tableswitch dflt lo hi offs, len)) (hx : x.toInt < lo ∨ hi < x.toInt) (ht : (pc : Int) + dflt = (tgt : Int)) (h : X g Z own cc nL d mc ms k n tgt L st σ) : X g Z own cc nL d mc ms k n pc L (.int x :: st) σ := by
  intro p e R s m args below meth c Q hZ hB hk hn H locs ls hR hS hL
  exact lv_tableOut hB.1 hB.2.1 hdg hx ht (h p e R s m args below meth c Q hZ hB hk hn H locs ls hR hS hL)
theorem x_tableIn {dflt lo hi : Int} {offs : Array Int} {len : Nat} {x : Int32} {off : Int} {tgt : Nat} (hdg : decode cc pc = .ok (.tableswitch dflt lo hi offs, len)) (h1 : ¬ x.toInt < lo) (h2 : ¬ hi < x.toInt) (ho : offs[(x.toInt - lo).toNat]? = some off) (ht : (pc : Int) + off = (tgt : Int)) (h : X g Z own cc nL d mc ms k n tgt L st σ) : X g Z own cc nL d mc ms k n pc L (.int x :: st) σ := by
  intro p e R s m args below meth c Q hZ hB hk hn H locs ls hR hS hL
  exact lv_tableIn hB.1 hB.2.1 hdg h1 h2 ho ht (h p e R s m args below meth c Q hZ hB hk hn H locs ls hR hS hL)

theorem Rel.arr {H : Heap} {id t z : Nat} (h : Rel g σ H) (hk : kd σ id = some (.inr (t, z))) : H[adr g id]? = some (vp_cell (gA g t) (z, cont g σ t id)) := by
  have h1 := h.2.2.2 id
  unfold RelAt at h1
  rw [hk] at h1
  exact h1
theorem Rel.obj {H : Heap} {id ci : Nat} (h : Rel g σ H) (hk : kd σ id = some (.inl ci)) : ∃ r : vw_C, cl13[ci]? = some r ∧ t_OB (adr g id) ((gD g).1 ci) r.2.2 ((gD g).2 ci) H (fun k => mv g (fv σ ci id k)) := by
  have h1 := h.2.2.2 id
  unfold RelAt at h1
  rw [hk] at h1
  exact h1
theorem Rel.at {H : Heap} {id : Nat} {q : KD} (h : Rel g σ H) (hk : kd σ id = some q) : 10 ≤ id ∧ id < nx σ := h.2.2.1 id (by rw [hk]; exact fun z => by cases z)
theorem adr_ne {a b : Nat} (ha : 10 ≤ a) (hb : 10 ≤ b) (h : b ≠ a) : adr g b ≠ adr g a := by
  unfold adr
  rw [if_neg (by omega), if_neg (by omega)]
  omega
theorem adr_A {a : Nat} (ha : 10 ≤ a) : Ag g (adr g a) := by
  unfold adr Ag
  rw [if_neg (by omega)]
  omega
/-- a change at one number -/
theorem Rel.put {σ1 : PS} {H H1 : Heap} {a : Nat} {q : KD} (h : Rel g σ H) (hk : kd σ a = some q) (z : H1.size = H.size) (oq : ∀ x : Nat, x ≠ adr g a → H1[x]? = H[x]?) (e1 : nx σ1 = nx σ) (e2 : kd σ1 = kd σ) (e3 : ∀ b, b ≠ a → mi σ1 b = mi σ b ∧ ml σ1 b = ml σ b ∧ mr σ1 b = mr σ b) (ha : RelAt g σ1 H1 a) : Rel g σ1 H1 := by
  refine ⟨by rw [e1]; exact h.1, by rw [e1, z]; exact h.2.1, by rw [e1, e2]; exact h.2.2.1, fun b => ?_⟩
  by_cases hb : b = a
  · rw [hb]; exact ha
  have h1 := h.2.2.2 b
  obtain ⟨m1, m2, m3⟩ := e3 b hb
  unfold RelAt at h1 ⊢
  rw [e2]
  cases hq : kd σ b with
  | none => trivial
  | some r =>
    rw [hq] at h1
    have hne := adr_ne (g := g) (h.at hk).1 (h.at hq).1 hb
    cases r with
    | inl ci =>
      obtain ⟨r, h2, h3⟩ := h1
      refine ⟨r, h2, ?_⟩
      have h4 := h3.kept (oq _ hne)
      refine h4.to fun j _ => ?_
      show mv g (fv σ ci b j) = mv g (fv σ1 ci b j)
      unfold fv
      rw [m1, m2, m3]
    | inr tn =>
      obtain ⟨t, z2⟩ := tn
      show H1[adr g b]? = some (vp_cell (gA g t) (z2, cont g σ1 t b))
      rw [oq _ hne, h1]
      unfold cont
      rw [m1, m2, m3]
theorem sa_mi (a : Nat) (f : Nat → Int32) : mi (sa σ a f) a = f := by show (if a = a then f else _) = f; rw [if_pos rfl]
theorem sa_mi_ne {a b : Nat} (f : Nat → Int32) (h : b ≠ a) : mi (sa σ a f) b = mi σ b := by show (if b = a then f else σ.1 b) = σ.1 b; rw [if_neg h]
theorem sl_ml (a : Nat) (f : Nat → Int64) : ml (sl σ a f) a = f := by show (if a = a then f else _) = f; rw [if_pos rfl]
theorem sl_ml_ne {a b : Nat} (f : Nat → Int64) (h : b ≠ a) : ml (sl σ a f) b = ml σ b := by show (if b = a then f else σ.2.1 b) = σ.2.1 b; rw [if_neg h]
theorem sr_mr (a : Nat) (f : Nat → Option Nat) : mr (sr σ a f) a = f := by show (if a = a then f else _) = f; rw [if_pos rfl]
theorem sr_mr_ne {a b : Nat} (f : Nat → Option Nat) (h : b ≠ a) : mr (sr σ a f) b = mr σ b := by show (if b = a then f else σ.2.2.1 b) = σ.2.2.1 b; rw [if_neg h]

theorem x_iald {id z : Nat} {i : Int32} (hkd : kd σ id = some (.inr (0, z))) (hin : vp_in i z) (hdg : decode cc pc = .ok (.iaload, 1)) (h : X g Z own cc nL d mc ms k n (pc + 1) L (.int (mi σ id i.toNatClampNeg) :: st) σ) : X g Z own cc nL d mc ms k n pc L (.int i :: .ref id :: st) σ := by
  intro p e R s m args below meth c Q hZ hB hk hn H locs ls hR hS hL
  have hP : va_P (gD g) cl13 [(adr g id, .inl (gA g 0, z, cont g σ 0 id))] H := fun j q hq => by
    match j, hq with
    | 0, hq => cases Option.some.inj hq; exact hR.arr hkd
    | j + 1, hq => simp at hq
  exact va_iald hB.1 hB.2.1 hB.2.2.2.2.2.1 hP 0 0 rfl rfl hin hdg (h p e R s m args below meth c Q hZ hB hk hn H locs ls hR hS hL)

theorem x_lald {id z : Nat} {i : Int32} (hkd : kd σ id = some (.inr (1, z))) (hin : vp_in i z) (hdg : decode cc pc = .ok (.laload, 1)) (h : X g Z own cc nL d mc ms k n (pc + 1) L (.long (ml σ id i.toNatClampNeg) :: st) σ) : X g Z own cc nL d mc ms k n pc L (.int i :: .ref id :: st) σ := by
  intro p e R s m args below meth c Q hZ hB hk hn H locs ls hR hS hL
  have hP : va_P (gD g) cl13 [(adr g id, .inl (gA g 1, z, cont g σ 1 id))] H := fun j q hq => by
    match j, hq with
    | 0, hq => cases Option.some.inj hq; exact hR.arr hkd
    | j + 1, hq => simp at hq
  exact va_lald hB.1 hB.2.1 hB.2.2.2.2.2.1 hP 0 1 rfl rfl hin hdg (h p e R s m args below meth c Q hZ hB hk hn H locs ls hR hS hL)

theorem x_bald {id z : Nat} {i : Int32} (hkd : kd σ id = some (.inr (2, z))) (hin : vp_in i z) (hdg : decode cc pc = .ok (.baload, 1)) (h : X g Z own cc nL d mc ms k n (pc + 1) L (.int (mi σ id i.toNatClampNeg) :: st) σ) : X g Z own cc nL d mc ms k n pc L (.int i :: .ref id :: st) σ := by
  intro p e R s m args below meth c Q hZ hB hk hn H locs ls hR hS hL
  have hP : va_P (gD g) cl13 [(adr g id, .inl (gA g 2, z, cont g σ 2 id))] H := fun j q hq => by
    match j, hq with
    | 0, hq => cases Option.some.inj hq; exact hR.arr hkd
    | j + 1, hq => simp at hq
  exact va_bald hB.1 hB.2.1 hB.2.2.2.2.2.1 hP 0 2 rfl rfl hin hdg (h p e R s m args below meth c Q hZ hB hk hn H locs ls hR hS hL)

theorem x_cald {id z : Nat} {i : Int32} (hkd : kd σ id = some (.inr (3, z))) (hin : vp_in i z) (hdg : decode cc pc = .ok (.caload, 1)) (h : X g Z own cc nL d mc ms k n (pc + 1) L (.int (mi σ id i.toNatClampNeg) :: st) σ) : X g Z own cc nL d mc ms k n pc L (.int i :: .ref id :: st) σ := by
  intro p e R s m args below meth c Q hZ hB hk hn H locs ls hR hS hL
  have hP : va_P (gD g) cl13 [(adr g id, .inl (gA g 3, z, cont g σ 3 id))] H := fun j q hq => by
    match j, hq with
    | 0, hq => cases Option.some.inj hq; exact hR.arr hkd
    | j + 1, hq => simp at hq
  exact va_cald hB.1 hB.2.1 hB.2.2.2.2.2.1 hP 0 3 rfl rfl hin hdg (h p e R s m args below meth c Q hZ hB hk hn H locs ls hR hS hL)

theorem x_zald {id z : Nat} {i : Int32} (hkd : kd σ id = some (.inr (4, z))) (hin : vp_in i z) (hdg : decode cc pc = .ok (.baload, 1)) (h : X g Z own cc nL d mc ms k n (pc + 1) L (.int (mi σ id i.toNatClampNeg) :: st) σ) : X g Z own cc nL d mc ms k n pc L (.int i :: .ref id :: st) σ := by
  intro p e R s m args below meth c Q hZ hB hk hn H locs ls hR hS hL
  have hP : va_P (gD g) cl13 [(adr g id, .inl (gA g 4, z, cont g σ 4 id))] H := fun j q hq => by
    match j, hq with
    | 0, hq => cases Option.some.inj hq; exact hR.arr hkd
    | j + 1, hq => simp at hq
  exact va_zald hB.1 hB.2.1 hB.2.2.2.2.2.1 hP 0 4 rfl rfl hin hdg (h p e R s m args below meth c Q hZ hB hk hn H locs ls hR hS hL)

theorem x_iast {id z : Nat} {i : Int32} {x : Int32} (hkd : kd σ id = some (.inr (0, z))) (hin : vp_in i z) (hdg : decode cc pc = .ok (.iastore, 1)) (h : X g Z own cc nL d mc ms k n (pc + 1) L st (si σ id i.toNatClampNeg x)) : X g Z own cc nL d mc ms k n pc L (.int x :: .int i :: .ref id :: st) σ := by
  intro p e R s m args below meth c Q hZ hB hk hn H locs ls hR hS hL
  have hK : Kt g s := hB.2.2.2.2.2.1
  refine W.iast hB.1 hB.2.1 (hR.arr hkd) ((hK.2 0 _ rfl).1 z (fun j => .int (mi σ id j))) (fun q => by cases q) (by show ¬ (i < 0 ∨ (arrV _ _ _).slots.size ≤ _); rw [arrV_size]; exact hin) rfl rfl hdg fun H1 e1 z1 oq => ?_
  refine h p e R s m args below meth c Q hZ hB hk hn H1 _ ls (hR.put hkd z1 oq rfl rfl (fun b hb => ⟨by first | exact sa_mi_ne _ hb | rfl, by first | exact sa_mi_ne _ hb | rfl, rfl⟩) ?_) (hS.put z1 oq (adr_A (hR.at hkd).1)) hL
  unfold RelAt
  rw [show kd (si σ id i.toNatClampNeg x) = kd σ from rfl, hkd]
  show H1[adr g id]? = some (vp_cell (gA g 0) (z, .inl (mi (si σ id i.toNatClampNeg x) id)))
  rw [show mi (si σ id i.toNatClampNeg x) id = upd (mi σ id) i.toNatClampNeg x from sa_mi id _]
  rw [e1]
  show some ((vp_cell (gA g 0) (z, .inl (mi σ id))).setSlot _ _) = _
  rw [vp_cell_i, vp_cell_i, arrV_store]
  congr 2
  funext q
  by_cases hq : q = i.toNatClampNeg
  · subst hq
    simp [updV, upd, vp_updL, vp_nar, narrow]
  · simp [updV, upd, vp_updL, hq]

theorem x_last {id z : Nat} {i : Int32} {x : Int64} (hkd : kd σ id = some (.inr (1, z))) (hin : vp_in i z) (hdg : decode cc pc = .ok (.lastore, 1)) (h : X g Z own cc nL d mc ms k n (pc + 1) L st (sj σ id i.toNatClampNeg x)) : X g Z own cc nL d mc ms k n pc L (.long x :: .int i :: .ref id :: st) σ := by
  intro p e R s m args below meth c Q hZ hB hk hn H locs ls hR hS hL
  have hK : Kt g s := hB.2.2.2.2.2.1
  refine W.last hB.1 hB.2.1 (hR.arr hkd) ((hK.2 1 _ rfl).1 z (fun j => .long (ml σ id j))) (fun q => by cases q) (by show ¬ (i < 0 ∨ (arrV _ _ _).slots.size ≤ _); rw [arrV_size]; exact hin) rfl rfl hdg fun H1 e1 z1 oq => ?_
  refine h p e R s m args below meth c Q hZ hB hk hn H1 _ ls (hR.put hkd z1 oq rfl rfl (fun b hb => ⟨by first | exact sl_ml_ne _ hb | rfl, by first | exact sl_ml_ne _ hb | rfl, rfl⟩) ?_) (hS.put z1 oq (adr_A (hR.at hkd).1)) hL
  unfold RelAt
  rw [show kd (sj σ id i.toNatClampNeg x) = kd σ from rfl, hkd]
  show H1[adr g id]? = some (vp_cell (gA g 1) (z, .inr (.inl (ml (sj σ id i.toNatClampNeg x) id))))
  rw [show ml (sj σ id i.toNatClampNeg x) id = vp_updL (ml σ id) i.toNatClampNeg x from sl_ml id _]
  rw [e1]
  show some ((vp_cell (gA g 1) (z, .inr (.inl (ml σ id)))).setSlot _ _) = _
  rw [vp_cell_l, vp_cell_l, arrV_store]
  congr 2
  funext q
  by_cases hq : q = i.toNatClampNeg
  · subst hq
    simp [updV, upd, vp_updL, vp_nar, narrow]
  · simp [updV, upd, vp_updL, hq]

theorem x_bast {id z : Nat} {i : Int32} {x : Int32} (hkd : kd σ id = some (.inr (2, z))) (hin : vp_in i z) (hdg : decode cc pc = .ok (.bastore, 1)) (h : X g Z own cc nL d mc ms k n (pc + 1) L st (si σ id i.toNatClampNeg (vp_nar .byte x))) : X g Z own cc nL d mc ms k n pc L (.int x :: .int i :: .ref id :: st) σ := by
  intro p e R s m args below meth c Q hZ hB hk hn H locs ls hR hS hL
  have hK : Kt g s := hB.2.2.2.2.2.1
  refine W.bast hB.1 hB.2.1 (hR.arr hkd) ((hK.2 2 _ rfl).1 z (fun j => .int (mi σ id j))) (fun q => by cases q) (by show ¬ (i < 0 ∨ (arrV _ _ _).slots.size ≤ _); rw [arrV_size]; exact hin) rfl rfl hdg fun H1 e1 z1 oq => ?_
  refine h p e R s m args below meth c Q hZ hB hk hn H1 _ ls (hR.put hkd z1 oq rfl rfl (fun b hb => ⟨by first | exact sa_mi_ne _ hb | rfl, by first | exact sa_mi_ne _ hb | rfl, rfl⟩) ?_) (hS.put z1 oq (adr_A (hR.at hkd).1)) hL
  unfold RelAt
  rw [show kd (si σ id i.toNatClampNeg (vp_nar .byte x)) = kd σ from rfl, hkd]
  show H1[adr g id]? = some (vp_cell (gA g 2) (z, .inl (mi (si σ id i.toNatClampNeg (vp_nar .byte x)) id)))
  rw [show mi (si σ id i.toNatClampNeg (vp_nar .byte x)) id = upd (mi σ id) i.toNatClampNeg (vp_nar .byte x) from sa_mi id _]
  rw [e1]
  show some ((vp_cell (gA g 2) (z, .inl (mi σ id))).setSlot _ _) = _
  rw [vp_cell_i, vp_cell_i, arrV_store]
  congr 2
  funext q
  by_cases hq : q = i.toNatClampNeg
  · subst hq
    simp [updV, upd, vp_updL, vp_nar, narrow]
  · simp [updV, upd, vp_updL, hq]

theorem x_cast {id z : Nat} {i : Int32} {x : Int32} (hkd : kd σ id = some (.inr (3, z))) (hin : vp_in i z) (hdg : decode cc pc = .ok (.castore, 1)) (h : X g Z own cc nL d mc ms k n (pc + 1) L st (si σ id i.toNatClampNeg (vp_nar .char x))) : X g Z own cc nL d mc ms k n pc L (.int x :: .int i :: .ref id :: st) σ := by
  intro p e R s m args below meth c Q hZ hB hk hn H locs ls hR hS hL
  have hK : Kt g s := hB.2.2.2.2.2.1
  refine W.cast hB.1 hB.2.1 (hR.arr hkd) ((hK.2 3 _ rfl).1 z (fun j => .int (mi σ id j))) (fun q => by cases q) (by show ¬ (i < 0 ∨ (arrV _ _ _).slots.size ≤ _); rw [arrV_size]; exact hin) rfl rfl hdg fun H1 e1 z1 oq => ?_
  refine h p e R s m args below meth c Q hZ hB hk hn H1 _ ls (hR.put hkd z1 oq rfl rfl (fun b hb => ⟨by first | exact sa_mi_ne _ hb | rfl, by first | exact sa_mi_ne _ hb | rfl, rfl⟩) ?_) (hS.put z1 oq (adr_A (hR.at hkd).1)) hL
  unfold RelAt
  rw [show kd (si σ id i.toNatClampNeg (vp_nar .char x)) = kd σ from rfl, hkd]
  show H1[adr g id]? = some (vp_cell (gA g 3) (z, .inl (mi (si σ id i.toNatClampNeg (vp_nar .char x)) id)))
  rw [show mi (si σ id i.toNatClampNeg (vp_nar .char x)) id = upd (mi σ id) i.toNatClampNeg (vp_nar .char x) from sa_mi id _]
  rw [e1]
  show some ((vp_cell (gA g 3) (z, .inl (mi σ id))).setSlot _ _) = _
  rw [vp_cell_i, vp_cell_i, arrV_store]
  congr 2
  funext q
  by_cases hq : q = i.toNatClampNeg
  · subst hq
    simp [updV, upd, vp_updL, vp_nar, narrow]
  · simp [updV, upd, vp_updL, hq]

theorem x_zast {id z : Nat} {i : Int32} {x : Int32} (hkd : kd σ id = some (.inr (4, z))) (hin : vp_in i z) (hdg : decode cc pc = .ok (.bastore, 1)) (h : X g Z own cc nL d mc ms k n (pc + 1) L st (si σ id i.toNatClampNeg (vp_nar .boolean x))) : X g Z own cc nL d mc ms k n pc L (.int x :: .int i :: .ref id :: st) σ := by
  intro p e R s m args below meth c Q hZ hB hk hn H locs ls hR hS hL
  have hK : Kt g s := hB.2.2.2.2.2.1
  refine W.zast hB.1 hB.2.1 (hR.arr hkd) ((hK.2 4 _ rfl).1 z (fun j => .int (mi σ id j))) (fun q => by cases q) (by show ¬ (i < 0 ∨ (arrV _ _ _).slots.size ≤ _); rw [arrV_size]; exact hin) rfl rfl hdg fun H1 e1 z1 oq => ?_
  refine h p e R s m args below meth c Q hZ hB hk hn H1 _ ls (hR.put hkd z1 oq rfl rfl (fun b hb => ⟨by first | exact sa_mi_ne _ hb | rfl, by first | exact sa_mi_ne _ hb | rfl, rfl⟩) ?_) (hS.put z1 oq (adr_A (hR.at hkd).1)) hL
  unfold RelAt
  rw [show kd (si σ id i.toNatClampNeg (vp_nar .boolean x)) = kd σ from rfl, hkd]
  show H1[adr g id]? = some (vp_cell (gA g 4) (z, .inl (mi (si σ id i.toNatClampNeg (vp_nar .boolean x)) id)))
  rw [show mi (si σ id i.toNatClampNeg (vp_nar .boolean x)) id = upd (mi σ id) i.toNatClampNeg (vp_nar .boolean x) from sa_mi id _]
  rw [e1]
  show some ((vp_cell (gA g 4) (z, .inl (mi σ id))).setSlot _ _) = _
  rw [vp_cell_i, vp_cell_i, arrV_store]
  congr 2
  funext q
  by_cases hq : q = i.toNatClampNeg
  · subst hq
    simp [updV, upd, vp_updL, vp_nar, narrow]
  · simp [updV, upd, vp_updL, hq]

end XR
