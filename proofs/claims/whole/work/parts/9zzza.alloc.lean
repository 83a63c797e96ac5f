/-! ===== new objects and arrays in the store; what a constructor's frame does ===== -/
def nK (σ : PS) (a : Nat) (q : KD) : PS := (fun b => if b = a then fun _ => 0 else mi σ b, fun b => if b = a then fun _ => 0 else ml σ b, fun b => if b = a then fun _ => none else mr σ b, fun b => if b = a then some q else kd σ b, a + 1)
def nM (σ : PS) (a z y : Nat) : PS := (fun b => if a ≤ b ∧ b ≤ a + z then fun _ => 0 else mi σ b, fun b => if a ≤ b ∧ b ≤ a + z then fun _ => 0 else ml σ b, fun b => if b = a then (fun i => if i < z then some (a + 1 + i) else none) else if a ≤ b ∧ b ≤ a + z then fun _ => none else mr σ b, fun b => if b = a then some (.inr (5, z)) else if a ≤ b ∧ b ≤ a + z then some (.inr (0, y)) else kd σ b, a + z + 1)
theorem kd_nK (σ : PS) (a b : Nat) (q : KD) : kd (nK σ a q) b = if b = a then some q else kd σ b := rfl
theorem mi_nK (σ : PS) (a b : Nat) (q : KD) : mi (nK σ a q) b = if b = a then fun _ => 0 else mi σ b := rfl
theorem ml_nK (σ : PS) (a b : Nat) (q : KD) : ml (nK σ a q) b = if b = a then fun _ => 0 else ml σ b := rfl
theorem mr_nK (σ : PS) (a b : Nat) (q : KD) : mr (nK σ a q) b = if b = a then fun _ => none else mr σ b := rfl
theorem kd_nM (σ : PS) (a b z y : Nat) : kd (nM σ a z y) b = if b = a then some (.inr (5, z)) else if a ≤ b ∧ b ≤ a + z then some (.inr (0, y)) else kd σ b := rfl
theorem mi_nM (σ : PS) (a b z y : Nat) : mi (nM σ a z y) b = if a ≤ b ∧ b ≤ a + z then fun _ => 0 else mi σ b := rfl
theorem ml_nM (σ : PS) (a b z y : Nat) : ml (nM σ a z y) b = if a ≤ b ∧ b ≤ a + z then fun _ => 0 else ml σ b := rfl
theorem mr_nM (σ : PS) (a b z y : Nat) : mr (nM σ a z y) b = if b = a then (fun i => if i < z then some (a + 1 + i) else none) else if a ≤ b ∧ b ≤ a + z then fun _ => none else mr σ b := rfl
theorem RelAt.keep {g : GV} {σ σ1 : PS} {H H1 : Heap} {b : Nat} (h : Rel g σ H) (oq : ∀ x : Nat, x < H.size → H1[x]? = H[x]?) (e0 : kd σ1 b = kd σ b) (e1 : mi σ1 b = mi σ b) (e2 : ml σ1 b = ml σ b) (e3 : mr σ1 b = mr σ b) : RelAt g σ1 H1 b := by
  obtain ⟨h1, h2, h3, h4⟩ := h
  have h5 := h4 b
  unfold RelAt at h5 ⊢
  rw [e0]
  cases hk : kd σ b with
  | none => trivial
  | some q =>
    have hi := h3 b (by rw [hk]; exact fun z => nomatch z)
    have ha : adr g b < H.size := by
      unfold adr
      rw [if_neg (by omega)]
      omega
    rw [hk] at h5
    match q, h5 with
    | .inl ci, h5 =>
      obtain ⟨r, g1, g2⟩ := h5
      refine ⟨r, g1, (g2.kept (oq _ ha)).to fun j _ => ?_⟩
      show mv g (fv σ ci b j) = mv g (fv σ1 ci b j)
      unfold fv
      rw [e1, e2, e3]
    | .inr (t, n), h5 =>
      refine (oq _ ha).trans (h5.trans ?_)
      unfold cont
      rw [e1, e2, e3]
theorem adr_nx {g : GV} {σ : PS} {H : Heap} {a : Nat} (h : Rel g σ H) (ha : nx σ = a) : adr g a = H.size := by
  have h1 := h.1
  have h2 := h.2.1
  unfold adr
  rw [if_neg (by omega)]
  omega
theorem Rel.mkK {g : GV} {σ : PS} {H H1 : Heap} {a : Nat} {q : KD} (h : Rel g σ H) (ha : nx σ = a) (z : H1.size = H.size + 1) (oq : ∀ x : Nat, x < H.size → H1[x]? = H[x]?) (hn : RelAt g (nK σ a q) H1 a) : Rel g (nK σ a q) H1 := by
  have h1 := h.1
  have h2 := h.2.1
  refine ⟨by show 10 ≤ a + 1; omega, by show H1.size = gN g + (a + 1 - 10); omega, fun id hid => ?_, fun b => ?_⟩
  · by_cases e : id = a
    · exact ⟨by omega, by show id < a + 1; omega⟩
    · have hid' : kd σ id ≠ none := by rw [kd_nK, if_neg e] at hid; exact hid
      have h3 := h.2.2.1 id hid'
      exact ⟨h3.1, by show id < a + 1; omega⟩
  · by_cases e : b = a
    · rw [e]; exact hn
    · exact RelAt.keep h oq (by rw [kd_nK, if_neg e]) (by rw [mi_nK, if_neg e]) (by rw [ml_nK, if_neg e]) (by rw [mr_nK, if_neg e])
theorem Rel.mkM {g : GV} {σ : PS} {H H1 : Heap} {a z y : Nat} (h : Rel g σ H) (ha : nx σ = a) (hz : H1.size = H.size + 1 + z) (oq : ∀ x : Nat, x < H.size → H1[x]? = H[x]?) (hn : H1[H.size]? = some (gO (gA g 5) z H.size z)) (hr : ∀ j, j < z → H1[H.size + 1 + j]? = some (gI (gA g 0) y)) : Rel g (nM σ a z y) H1 := by
  have h1 := h.1
  have h2 := h.2.1
  have ea := adr_nx h ha
  refine ⟨by show 10 ≤ a + z + 1; omega, by show H1.size = gN g + (a + z + 1 - 10); omega, fun id hid => ?_, fun b => ?_⟩
  · by_cases e : a ≤ id ∧ id ≤ a + z
    · exact ⟨by omega, by show id < a + z + 1; omega⟩
    · have hid' : kd σ id ≠ none := by rw [kd_nM, if_neg (by omega), if_neg e] at hid; exact hid
      have h3 := h.2.2.1 id hid'
      exact ⟨h3.1, by show id < a + z + 1; omega⟩
  · by_cases e : b = a
    · subst e
      unfold RelAt
      rw [kd_nM, if_pos rfl]
      show H1[adr g b]? = some (vp_cell (gA g 5) (z, .inr (.inr (.inr (.inr (fun i => (mr (nM σ b z y) b i).map (adr g)))))))
      rw [ea, hn, vp_cell_q]
      unfold gO
      congr 1
      refine congrArg (arrV _ _) (funext fun i => ?_)
      rw [mr_nM, if_pos rfl]
      by_cases hi : i < z
      · rw [if_pos hi, if_pos hi]
        have e2 : adr g (b + 1 + i) = H.size + 1 + i := by
          rw [← ea]
          unfold adr
          rw [if_neg (by omega), if_neg (by omega)]
          omega
        show _ = va_rf (some (adr g (b + 1 + i)))
        rw [e2]
        rfl
      · rw [if_neg hi, if_neg hi]
        rfl
    · by_cases e2 : a ≤ b ∧ b ≤ a + z
      · unfold RelAt
        rw [kd_nM, if_neg e, if_pos e2]
        show H1[adr g b]? = some (vp_cell (gA g 0) (y, .inl (mi (nM σ a z y) b)))
        have e3 : adr g b = H.size + 1 + (b - a - 1) := by
          rw [← ea]
          unfold adr
          rw [if_neg (by omega), if_neg (by omega)]
          omega
        rw [e3, hr _ (by omega), mi_nM, if_pos e2]
        rfl
      · exact RelAt.keep h oq (by rw [kd_nM, if_neg e, if_neg e2]) (by rw [mi_nM, if_neg e2]) (by rw [ml_nM, if_neg e2]) (by rw [mr_nM, if_neg e, if_neg e2])
def zv (t : FieldType) : Value := match t with
  | .long => .long 0
  | .object _ => .null
  | .array _ => .null
  | _ => .int 0
theorem fv_new (g : GV) (σ : PS) (a : Nat) (q : KD) (ci j : Nat) : mv g (fv (nK σ a q) ci a j) = zv (ftc ci j) := by
  have e1 : mi (nK σ a q) a j = 0 := by rw [mi_nK, if_pos rfl]
  have e2 : ml (nK σ a q) a j = 0 := by rw [ml_nK, if_pos rfl]
  have e3 : mr (nK σ a q) a j = none := by rw [mr_nK, if_pos rfl]
  unfold fv zv
  rw [e1, e2, e3]
  cases ftc ci j <;> rfl
theorem vaS_push {A : Nat → Prop} {H0 H H1 : Heap} {locs : List Loc} (hS : va_S A H0 H locs) (z : H.size ≤ H1.size) (o1 : ∀ x : Nat, x < H.size → H1[x]? = H[x]?) : va_S A H0 H1 locs := ⟨Nat.le_trans hS.1 z, fun x h1 h2 => (o1 x (Nat.lt_of_lt_of_le h1 hS.1)).trans (hS.2.1 x h1 h2), hS.2.2⟩
section XN
variable {g : GV} {Z : ZC} {own : String} {cc : ByteArray} {nL d mc ms k n pc : Nat} {L : List (Option Value)} {st : List Value} {σ : PS}
theorem x_newO {ci ix N a : Nat} {C : String} {T : u_T} (hc : cl13[ci]? = some (C, T, N)) (hlay : ∀ w ∈ u_ws C T N, w ∈ lwG) (ty0 : Nat → FieldType) (hty : ∀ k, k < N → parseFieldDescriptor (T k).2.2.1 = some (ty0 k)) (w1 : Cond.classLink own ix C ∈ lwG) (w2 : Cond.instantiable C N ∈ lwG) (w3 : Cond.initialized C ∈ lwG) (hz : ∀ j, j < N → defaultValue (ty0 j) = zv (ftc ci j)) (ha : nx σ = a) (hdg : decode cc pc = .ok (.new ix, 3)) (hk1 : k + 1 ≤ mc) (hn1 : n + N ≤ ms) (h : X g Z own cc nL d mc ms (k + 1) (n + N) (pc + 3) L (.ref a :: st) (nK σ a (.inl ci))) : X g Z own cc nL d mc ms k n pc L st σ := by
  intro p e R s m args below meth c Q hZ hB hk hn H locs ls hR hS hL
  have hts := hB.2.2.2.2.1
  have hK : Kt g s := hB.2.2.2.2.2.1
  have hKn := hK.1 ci _ hc
  obtain ⟨-, -, -, -, -, -, -, hsz, c1, c2, -, -⟩ := id hB
  refine W.newcK hB.1 hB.2.1 hB.2.2.2.1 (hts _ w1) (hts _ w2) (hts _ w3) (g := F0 m pc ls (st.map (mv g))) rfl hdg (by rw [c1]; exact hk1) (by rw [c2]; exact hn1) hKn.2.1 rfl fun H1 kC hkC e1 z1 o1 => ?_
  have ea := adr_nx hR ha
  have hR1 : Rel g (nK σ a (.inl ci)) H1 := hR.mkK ha z1 o1 (by
    unfold RelAt
    rw [kd_nK, if_pos rfl]
    refine ⟨_, hc, ?_⟩
    rw [ea]
    exact (u_born ty0 hts hlay hKn hkC e1 hty).to fun j hj => by rw [fv_new]; exact hz j hj)
  have h2 := h p e R s m args below meth c Q hZ hB hk1 hn1 H1 locs ls hR1 (vaS_push hS (by omega) o1) hL
  rw [List.map_cons, show mv g (.ref a) = .ref H.size from by show Value.ref (adr g a) = _; rw [ea]] at h2
  exact h2
theorem Kt.pa {s : State} {t : Nat} (hK : Kt g s) (ht : t < 5) : s.vm.findClass ("[" ++ (aty t).toString) = some (gA g t) := by
  match t, ht with
  | 0, _ => exact (hK.2 0 _ rfl).2
  | 1, _ => exact (hK.2 1 _ rfl).2
  | 2, _ => exact (hK.2 2 _ rfl).2
  | 3, _ => exact (hK.2 3 _ rfl).2
  | 4, _ => exact (hK.2 4 _ rfl).2
theorem cont_new {t a z : Nat} (ht : t < 5) : arrV (gA g t) z (fun _ => defaultValue (aty t)) = vp_cell (gA g t) (z, cont g (nK σ a (.inr (t, z))) t a) := by
  have e1 : ∀ q : KD, mi (nK σ a q) a = fun _ => 0 := fun q => by rw [mi_nK, if_pos rfl]
  have e2 : ∀ q : KD, ml (nK σ a q) a = fun _ => 0 := fun q => by rw [ml_nK, if_pos rfl]
  match t, ht with
  | 0, _ => show _ = vp_cell _ (z, .inl (mi (nK σ a _) a)); rw [e1]; rfl
  | 1, _ => show _ = vp_cell _ (z, .inr (.inl (ml (nK σ a _) a))); rw [e2]; rfl
  | 2, _ => show _ = vp_cell _ (z, .inl (mi (nK σ a _) a)); rw [e1]; rfl
  | 3, _ => show _ = vp_cell _ (z, .inl (mi (nK σ a _) a)); rw [e1]; rfl
  | 4, _ => show _ = vp_cell _ (z, .inl (mi (nK σ a _) a)); rw [e1]; rfl
theorem x_newA {atype : ArrayType} {t z a : Nat} {v : Int32} (ht : t < 5) (hty : newarray.typeOf atype = aty t) (w1 : Cond.arrayClass (newarray.typeOf atype) ∈ lwG) (hv : ¬ v < 0) (hz : v.toNatClampNeg = z) (hb : z * componentBytes (newarray.typeOf atype) ≤ 536870912) (ha : nx σ = a) (hdg : decode cc pc = .ok (.newarray atype, 2)) (hk1 : k + 1 ≤ mc) (hn1 : n + z ≤ ms) (h : X g Z own cc nL d mc ms (k + 1) (n + z) (pc + 2) L (.ref a :: st) (nK σ a (.inr (t, z)))) : X g Z own cc nL d mc ms k n pc L (.int v :: st) σ := by
  intro p e R s m args below meth c Q hZ hB hk hn H locs ls hR hS hL
  have hts := hB.2.2.2.2.1
  have hK : Kt g s := hB.2.2.2.2.2.1
  obtain ⟨-, -, -, -, -, -, -, hsz, c1, c2, -, -⟩ := id hB
  refine va_newaK hB.1 hB.2.1 (hts _ w1) (g := F0 m pc ls (.int v :: st.map (mv g))) rfl hdg rfl hv hz hb (by rw [c1]; exact hk1) (by rw [c2]; exact hn1) rfl fun H1 cA e1 z1 o1 hAr hNm => ?_
  have ea := adr_nx hR ha
  rw [hty] at e1 hNm
  have ec : cA = gA g t := Option.some.inj (hNm.symm.trans (hK.pa ht))
  subst ec
  have hR1 : Rel g (nK σ a (.inr (t, z))) H1 := hR.mkK ha z1 o1 (by
    unfold RelAt
    rw [kd_nK, if_pos rfl]
    show H1[adr g a]? = some (vp_cell (gA g t) (z, cont g _ t a))
    rw [ea, e1, cont_new ht])
  have h2 := h p e R s m args below meth c Q hZ hB hk1 hn1 H1 locs ls hR1 (vaS_push hS (by omega) o1) hL
  rw [List.map_cons, show mv g (.ref a) = .ref H.size from by show Value.ref (adr g a) = _; rw [ea]] at h2
  exact h2
theorem x_newQ {ix z a : Nat} {v : Int32} (hao : ∀ p e R s m args below meth c Q, Z p e R s m args below meth c Q → va_AO RX3 s) (w1 : Cond.classLink own ix RX3 ∈ lwG) (hv : ¬ v < 0) (hz : v.toNatClampNeg = z) (hb : z * 4 ≤ 536870912) (ha : nx σ = a) (hdg : decode cc pc = .ok (.anewarray ix, 3)) (hk1 : k + 1 ≤ mc) (hn1 : n + z ≤ ms) (h : X g Z own cc nL d mc ms (k + 1) (n + z) (pc + 3) L (.ref a :: st) (nK σ a (.inr (6, z)))) : X g Z own cc nL d mc ms k n pc L (.int v :: st) σ := by
  intro p e R s m args below meth c Q hZ hB hk hn H locs ls hR hS hL
  subst hz
  have hts := hB.2.2.2.2.1
  have hK : Kt g s := hB.2.2.2.2.2.1
  obtain ⟨-, -, -, -, -, -, -, hsz, c1, c2, -, -⟩ := id hB
  have ea := adr_nx hR ha
  refine W.anew hB.1 hB.2.1 hB.2.2.2.1 (hts _ w1) (va_AO.use (hao _ _ _ _ _ _ _ _ _ _ hZ)) (g := F0 m pc ls (.int v :: st.map (mv g))) rfl hdg rfl hv hb (by rw [c1]; exact hk1) (by rw [c2]; exact hn1) fun cA kA comp f1 f2 f3 f4 => ?_
  obtain ⟨kA', comp', g1, g2, g3, g4⟩ := (hK.2 6 _ rfl).2
  have ec : cA = gA g 6 := Option.some.inj (f1.symm.trans g4)
  subst ec
  generalize hH1 : H.push ({ cls := gA g 6, slots := Array.replicate v.toNatClampNeg .null, vm := .none } : Cell) = H1
  have z1 : H1.size = H.size + 1 := by rw [← hH1, Array.size_push]
  have e1 : H1[H.size]? = some (arrV (gA g 6) v.toNatClampNeg (fun _ => .null)) := by rw [← hH1, Array.getElem?_push_size, ← arrV_new]
  have o1 : ∀ q : Nat, q < H.size → H1[q]? = H[q]? := fun q hq => by rw [← hH1, Array.getElem?_push, if_neg (Nat.ne_of_lt hq)]
  have hR1 : Rel g (nK σ a (.inr (6, v.toNatClampNeg))) H1 := hR.mkK ha z1 o1 (by
    unfold RelAt
    rw [kd_nK, if_pos rfl]
    show H1[adr g a]? = some (vp_cell (gA g 6) (v.toNatClampNeg, .inr (.inr (.inr (.inr (fun i => (mr (nK σ a _) a i).map (adr g)))))))
    rw [ea, e1, vp_cell_q, mr_nK, if_pos rfl]
    rfl)
  have h2 := h p e R s m args below meth c Q hZ hB hk1 hn1 H1 locs ls hR1 (vaS_push hS (by omega) o1) hL
  rw [List.map_cons, show mv g (.ref a) = .ref H.size from by show Value.ref (adr g a) = _; rw [ea]] at h2
  exact h2
theorem x_mna {ix z y a : Nat} {vn vk : Int32} (w1 : Cond.classLink own ix "[[I" ∈ lwG) (hvn : ¬ vn < 0) (hvk : ¬ vk < 0) (hz : vn.toNatClampNeg = z) (hy : vk.toNatClampNeg = y) (hb1 : z * 4 ≤ 536870912) (hb2 : y * 4 ≤ 536870912) (ha : nx σ = a) (hdg : decode cc pc = .ok (.multianewarray ix 2, 4)) (hk1 : k + (1 + z) ≤ mc) (hn1 : n + (z + z * y) ≤ ms) (h : X g Z own cc nL d mc ms (k + (1 + z)) (n + (z + z * y)) (pc + 4) L (.ref a :: st) (nM σ a z y)) : X g Z own cc nL d mc ms k n pc L (.int vk :: .int vn :: st) σ := by
  intro p e R s m args below meth c Q hZ hB hk hn H locs ls hR hS hL
  subst hz
  subst hy
  have hts := hB.2.2.2.2.1
  have hK : Kt g s := hB.2.2.2.2.2.1
  have hZs : Zs g s s.heap := hB.2.2.2.2.2.2.1
  obtain ⟨kA, ka1, ka2⟩ := hZs.2.2.2.2.2.2.2.2.2.2.2.2.2.2.2
  obtain ⟨-, kI, ki1, cI, ki2⟩ := (hK.2 0 _ rfl).1 0 (fun _ => .null)
  obtain ⟨-, -, -, -, -, -, -, hsz, c1, c2, -, -⟩ := id hB
  have ea := adr_nx hR ha
  intro T hT XS
  obtain ⟨vm₁, X', step⟩ := g_mna XS hB.1 hB.2.2.2.1 (hts _ w1) (hK.2 5 _ rfl).2 ka1 ka2 ki1 ki2 (g := F0 m pc ls (.int vk :: .int vn :: st.map (mv g))) rfl (by rw [hB.2.1]; exact hdg) rfl hvn hvk hb1 hb2 (by rw [c1]; exact hk1) (by rw [c2]; exact hn1)
  obtain ⟨f1, f2, -, -⟩ := gF_facts (T.setVm vm₁) (gA g 5) (gA g 0) vn.toNatClampNeg vk.toNatClampNeg vn.toNatClampNeg
  have f3 := fun (x : Nat) (hx : x < (T.setVm vm₁).heap.size) => gF_old (T.setVm vm₁) (gA g 5) (gA g 0) vn.toNatClampNeg vk.toNatClampNeg hx vn.toNatClampNeg
  have f4 := gF_row (T.setVm vm₁) (gA g 5) (gA g 0) vn.toNatClampNeg vk.toNatClampNeg vn.toNatClampNeg
  generalize gF (T.setVm vm₁) (gA g 5) (gA g 0) vn.toNatClampNeg vk.toNatClampNeg vn.toNatClampNeg = F at X' step f1 f2 f3 f4
  have hTh : (T.setVm vm₁).heap = H := hT
  rw [hTh] at f1 f2 f3 f4
  have hR1 : Rel g (nM σ a vn.toNatClampNeg vk.toNatClampNeg) F.heap := hR.mkM ha f1 f3 f2 f4
  have ek : k + 1 + vn.toNatClampNeg = k + (1 + vn.toNatClampNeg) := by omega
  have en : n + vn.toNatClampNeg + vn.toNatClampNeg * vk.toNatClampNeg = n + (vn.toNatClampNeg + vn.toNatClampNeg * vk.toNatClampNeg) := by omega
  rw [ek, en] at X'
  have h2 := h p e R s m args below meth c Q hZ hB hk1 hn1 F.heap locs ls hR1 (vaS_push hS (by omega) f3) hL
  rw [List.map_cons, show mv g (.ref a) = .ref T.heap.size from by show Value.ref (adr g a) = _; rw [ea, hT]] at h2
  obtain ⟨t, a1, b1⟩ := h2 F rfl X'
  exact ⟨t, step t a1, b1⟩
theorem x_aastQ {id z v : Nat} {i : Int32} (hkd : kd σ id = some (.inr (6, z))) (hv : kd σ v = some (.inl 3)) (hin : vp_in i z) (hdg : decode cc pc = .ok (.aastore, 1)) (h : X g Z own cc nL d mc ms k n (pc + 1) L st (sq σ id i.toNatClampNeg (some v))) : X g Z own cc nL d mc ms k n pc L (.ref v :: .int i :: .ref id :: st) σ := by
  intro p e R s m args below meth c Q hZ hB hk hn H locs ls hR hS hL
  have hK : Kt g s := hB.2.2.2.2.2.1
  have hlt : i.toNatClampNeg < z := Nat.not_le.mp fun q => hin (Or.inr q)
  have h0 : ¬ i < 0 := fun q => hin (Or.inl q)
  obtain ⟨r', hr', cellV, g1, g2, g3, -⟩ := hR.obj hv
  have hr : r' = (RX3, TX3, 3) := Option.some.inj (hr'.symm.trans rfl)
  subst hr
  have hcls := (hK.1 3 _ rfl).2
  obtain ⟨kA, comp, k1, k2, k3, -⟩ := (hK.2 6 _ rfl).2
  have hcomp : comp = (gD g).1 3 := Option.some.inj (k3.symm.trans hcls.1)
  subst hcomp
  obtain ⟨kC, hkC, -⟩ := hcls.2
  have ha := hR.arr hkd
  refine W.aast (v := adr g v) hB.1 hB.2.1 ha (fun q h => by cases h) (fun h => by cases h) k1 k2 rfl hkC ⟨h0, by show _ < (arrV _ _ _).slots.size; rw [arrV_size]; exact hlt⟩ g1 (fun q h => by rw [g3] at h; cases h) (by rw [g2]; exact hkC) (by rw [g2]; exact va_assign hcls) rfl rfl hdg fun H1 e1 z1 oq => ?_
  refine h p e R s m args below meth c Q hZ hB hk hn H1 _ ls (hR.put hkd z1 oq rfl rfl (fun b hb => ⟨rfl, rfl, sr_mr_ne _ hb⟩) ?_) (hS.put z1 oq (adr_A (hR.at hkd).1)) hL
  unfold RelAt
  rw [show kd (sq σ id i.toNatClampNeg (some v)) = kd σ from rfl, hkd]
  show H1[adr g id]? = some (vp_cell (gA g 6) (z, .inr (.inr (.inr (.inr (fun j => (mr (sq σ id i.toNatClampNeg (some v)) id j).map (adr g)))))))
  rw [show mr (sq σ id i.toNatClampNeg (some v)) id = va_up (mr σ id) i.toNatClampNeg (some v) from sr_mr id _]
  rw [e1]
  show some ((vp_cell (gA g 6) (z, .inr (.inr (.inr (.inr (fun j => (mr σ id j).map (adr g))))))).setSlot _ _) = _
  rw [vp_cell_q, vp_cell_q, arrV_store]
  congr 2
  funext q
  by_cases hq : q = i.toNatClampNeg
  · subst hq
    simp [updV, va_up, va_rf]
  · simp [updV, va_up, hq]
theorem x_putF {id ci fk ix N : Nat} {C : String} {T : u_T} (hin2 : ∀ p e R s m args below meth c Q, Z p e R s m args below meth c Q → meth.name = "<init>") (hdecl : (T fk).1 = own) (hc : cl13[ci]? = some (C, T, N)) (hf : fk < N) (hlay : ∀ w ∈ u_ws C T N, w ∈ lwG) (hlk : Cond.fieldLink own ix C (T fk).2.1 (T fk).2.2.1 ∈ lwG) (hT : (T fk).1 = C) (hfin : (T fk).2.2.2 = true) (ty0 : Nat → FieldType) (hty : ∀ k, k < N → parseFieldDescriptor (T k).2.2.1 = some (ty0 k)) (hnm : ∀ a, a < N → ∀ b, b < N → a ≠ b → (T a).2.1 ≠ (T b).2.1) (hkd : kd σ id = some (.inl ci)) {v : Nat} (hnr : narrow (ty0 fk) (.ref (adr g v)) = .ref (adr g v)) (hfit : fits (ty0 fk) (.ref (adr g v)) = true) (hfv : ∀ σ1 : PS, fv σ1 ci id fk = va_rf (mr σ1 id fk)) (hdg : decode cc pc = .ok (.putfield ix, 3)) (h : X g Z own cc nL d mc ms k n (pc + 3) L st (sq σ id fk (some v))) : X g Z own cc nL d mc ms k n pc L (.ref v :: .ref id :: st) σ := by
  intro p e R s m args below meth c Q hZ hB hk hn H locs ls hR hS hL
  have hts := hB.2.2.2.2.1
  have hK : Kt g s := hB.2.2.2.2.2.1
  have hap := va_apart (own := own) hts hlay ty0 hty hnm hK hc
  obtain ⟨r, h1, cell, q1, q2, q3, q4⟩ := hR.obj hkd
  have hr : r = (C, T, N) := Option.some.inj (h1.symm.trans hc)
  subst hr
  obtain ⟨hS2, hfc, kC, hkC, hkind⟩ := hK.1 ci _ hc
  obtain ⟨cf, kf, fi, f, hi, hsl⟩ := hS2 fk hf
  have hly := hts _ (hlay _ (u_in_lay hf))
  unfold u_lay at hly
  rw [if_pos hfin] at hly
  have hst := (u_facts hfc hkC (u_lays hts hlay hf) hi).1
  have hcf : m.cls = cf := by
    obtain ⟨_, _, c', _, _, _, -, -, hf', -, -, -, hown2, -⟩ := Cond.laysFinal_spec hly
    have e1 : c' = cf := by have := hi.symm.trans hf'; simp at this; exact this.1.symm
    rw [hdecl] at hown2
    rw [← e1]; exact Option.some.inj (hB.2.2.2.1.symm.trans hown2)
  have h6 := u_fits hfc hkC hkind (Or.inr hly) hi (hty fk hf) hnr hfit
  refine W.putFinK hB.1 hB.2.1 hB.2.2.2.1 (hts _ hlk) (by rw [← hT]; exact hi) hst hcf (hin2 _ _ _ _ _ _ _ _ _ _ hZ) (by rw [q2]; exact h6) q1 q3 (by rw [hsl]; exact k2_hasslot (q4 fk hf)) rfl rfl hdg fun H1 e1 e2 e3 => ?_
  rw [hsl] at e1 ⊢
  refine h p e R s m args below meth c Q hZ hB hk hn H1 _ ls (hR.put hkd e2 e3 rfl rfl (fun b hb => ⟨rfl, rfl, sr_mr_ne _ hb⟩) ?_) (hS.put e2 e3 (adr_A (hR.at hkd).1)) hL
  unfold RelAt
  rw [show kd (sq σ id fk (some v)) = kd σ from rfl, hkd]
  refine ⟨_, hc, _, e1, q2, q3, fun j hj => ?_⟩
  have e1 : H1[adr g id]? = some (cell.setSlot ((gD g).2 ci fk) (.ref (adr g v))) := e1
  show (cell.setSlot ((gD g).2 ci fk) (.ref (adr g v))).slots[(gD g).2 ci j]? = _
  rw [t_set q4 hap hf (.ref (adr g v)) j hj]
  congr 1
  by_cases hjk : j = fk
  · subst hjk
    show updV _ _ _ _ = mv g (fv (sq σ id j (some v)) ci id j)
    rw [hfv, show mr (sq σ id j (some v)) id = va_up (mr σ id) j (some v) from sr_mr id _]
    simp [updV, va_up, va_rf, mv]
  · show updV _ _ _ _ = mv g (fv (sq σ id fk (some v)) ci id j)
    unfold updV
    rw [if_neg hjk]
    have e4 : mr (sq σ id fk (some v)) id j = mr σ id j := by
      rw [show mr (sq σ id fk (some v)) id = va_up (mr σ id) fk (some v) from sr_mr id _]
      simp [va_up, hjk]
    exact congrArg (mv g) (fv_congr rfl rfl e4.symm)
theorem gw_oI : Cond.instanceMethod Lib.objectInit ∈ lwG := gw 136 (by decide +kernel) rfl
theorem gw_oC : Cond.code Lib.objectInit ⟨#[0xb1]⟩ 1 none ∈ lwG := gw 137 (by decide +kernel) rfl
theorem x_objI {ix idn : Nat} (w1 : Cond.methodLink own ix Lib.objectInit ∈ lwG) (hst : (st.map fun v => v.category).sum ≤ 8) (hdg : decode cc pc = .ok (.invokespecial ix, 3)) (h : X g Z own cc nL d mc ms k n (pc + 3) L st σ) : X g Z own cc nL d mc ms k n pc L (.ref idn :: st) σ := by
  intro p e R s m args below meth c Q hZ hB hk hn H locs ls hR hS hL
  have hts := hB.2.2.2.2.1
  have hst2 : ((st.map (mv g)).map fun v => v.category).sum ≤ 8 := by rw [cat_map]; exact hst
  obtain ⟨-, -, hml, -, -, -, -, -, -, -, d1, d2⟩ := id hB
  exact W.objInit hB.1 hB.2.1 hB.2.2.2.1 (hts _ w1) (hts _ gw_oI) (hts _ gw_oC) (g := F0 m pc ls (.ref (adr g idn) :: st.map (mv g))) rfl (by show ls.size = _; rw [hml, hL.1]) rfl hdg (by omega) (by show 2 * 0 + _ + 12 ≤ _; omega) (h p e R s m args below meth c Q hZ hB hk hn H locs ls hR hS hL)
end XN
