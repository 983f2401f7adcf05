/-! Rows of the machine that write or make cells, over our heaps: with the exact size. -/
theorem gx_hr_set {D : va_G} {bs bq : Nat} {cA : Nat → ClassId} {h : gx_H} {H H1 : Heap} {k : Nat} {a0 a : gx_A} (hr : gx_hr D bs bq cA h H) (hk : h[k]? = some a0) (he : va_at D vwCl (bs + k, gx_ce bs bq cA a) H1) (z : H1.size = H.size) (oq : ∀ q : Nat, q ≠ bs + k → H1[q]? = H[q]?) : gx_hr D bs bq cA (h.set k a) H1 := by
  refine ⟨?_, by rw [z, hr.2, List.length_set]⟩
  rw [← gx_ws_set]
  exact hr.1.set gx_ws_D (gx_ws_get hk) he oq
theorem gx_hr_push {D : va_G} {bs bq : Nat} {cA : Nat → ClassId} {h : gx_H} {H H1 : Heap} {a : gx_A} (hr : gx_hr D bs bq cA h H) (he : va_at D vwCl (bs + h.length, gx_ce bs bq cA a) H1) (z : H1.size = H.size + 1) (oq : ∀ q : Nat, q < H.size → H1[q]? = H[q]?) : gx_hr D bs bq cA (h ++ [a]) H1 := by
  refine ⟨?_, by rw [z, hr.2, List.length_append]; rfl⟩
  rw [← gx_ws_app]
  refine va_P.app (hr.1.kept fun k x hx => oq x.1 ((hr.1 k x hx).lt)) (fun k x hx => ?_)
  have hz : k < 1 := (List.getElem?_eq_some_iff.mp hx).1
  rw [show k = 0 by omega] at hx
  cases hx
  exact he
theorem gx_S_push {bs : Nat} {H0 H H1 : Heap} {locs : List Loc} (hS : va_S (fun q => bs ≤ q) H0 H locs) (z : H1.size = H.size + 1) (oq : ∀ q : Nat, q < H.size → H1[q]? = H[q]?) : va_S (fun q => bs ≤ q) H0 H1 locs :=
  ⟨Nat.le_trans hS.1 (by omega), fun x h1 h2 => (oq x (Nat.lt_of_lt_of_le h1 hS.1)).trans (hS.2.1 x h1 h2), hS.2.2⟩
/-- the classes: their fields' types, names, words -/
theorem gx_inw : ∀ (a : Nat) (C : String) (T : u_T) (N : Nat), vwCl[a]? = some (C, T, N) → ∀ w ∈ u_ws C T N, w ∈ gx_tb := by
  have h : ∀ q ∈ vwCl, ∀ w ∈ u_ws q.1 q.2.1 q.2.2, w ∈ gx_tb := by
    have h1 : ∀ w ∈ u_ws RX0 TX0 5, w ∈ gx_tb := by decide +kernel
    have h2 : ∀ w ∈ u_ws RX1 TX1 2, w ∈ gx_tb := by decide +kernel
    have h3 : ∀ w ∈ u_ws RX2 TX2 9, w ∈ gx_tb := by decide +kernel
    have h4 : ∀ w ∈ u_ws RX3 TX3 15, w ∈ gx_tb := by decide +kernel
    exact List.forall_mem_cons.mpr ⟨h1, List.forall_mem_cons.mpr ⟨h2, List.forall_mem_cons.mpr ⟨h3, List.forall_mem_cons.mpr ⟨h4, fun _ h => absurd h List.not_mem_nil⟩⟩⟩⟩
  intro a C T N ha
  exact h _ (List.mem_of_getElem? ha)
theorem gx_tys : ∀ (a : Nat) (C : String) (T : u_T) (N : Nat), vwCl[a]? = some (C, T, N) → ∃ ty : Nat → FieldType, (∀ k, k < N → parseFieldDescriptor (T k).2.2.1 = some (ty k)) ∧ (∀ a, a < N → ∀ b, b < N → a ≠ b → (T a).2.1 ≠ (T b).2.1) ∧ (gx_df a).length = N ∧ ∀ bs bq j, j < N → defaultValue (ty j) = vp_V ((gx_df a).map (gx_tr bs bq)) j := by
  intro a C T N ha
  match a, ha with
  | 0, ha => cases ha; exact ⟨tyX0, tyX0_ok, nmX0, rfl, fun bs bq j hj => by match j, hj with | 0, _ => rfl | 1, _ => rfl | 2, _ => rfl | 3, _ => rfl | 4, _ => rfl⟩
  | 1, ha => cases ha; exact ⟨tyX1, tyX1_ok, nmX1, rfl, fun bs bq j hj => by match j, hj with | 0, _ => rfl | 1, _ => rfl⟩
  | 2, ha => cases ha; exact ⟨tyX2, tyX2_ok, nmX2, rfl, fun bs bq j hj => by match j, hj with | 0, _ => rfl | 1, _ => rfl | 2, _ => rfl | 3, _ => rfl | 4, _ => rfl | 5, _ => rfl | 6, _ => rfl | 7, _ => rfl | 8, _ => rfl⟩
  | 3, ha => cases ha; exact ⟨tyX3, tyX3_ok, nmX3, rfl, fun bs bq j hj => by match j, hj with | 0, _ => rfl | 1, _ => rfl | 2, _ => rfl | 3, _ => rfl | 4, _ => rfl | 5, _ => rfl | 6, _ => rfl | 7, _ => rfl | 8, _ => rfl | 9, _ => rfl | 10, _ => rfl | 11, _ => rfl | 12, _ => rfl | 13, _ => rfl | 14, _ => rfl⟩
  | a + 4, ha => simp [vwCl] at ha
section GXR
variable {p : Program} {l : Launch} {e : Env} {R : Room} {s : State} {m : MethodId} {args : Array Value} {below : List Frame} {meth : Method} {c : Code} {H : Heap} {locs : List Loc} {cells slots : Nat} {F : State → Prop}
variable {cc : ByteArray} {pc : Nat} {ls : Array Slot} {rest : List Value} {D : va_G} {bs bq : Nat} {cA : Nat → ClassId} {h : gx_H}
theorem gx_put (hx : p.tables.exec = Jvm.exec) (hb : c.code = cc) {own C : String} {T : u_T} {N ci index : Nat} (hts : ∀ w ∈ gx_tb, w.before args s = true) (hown : s.vm.findClass own = some m.cls) (hK : va_K D vwCl (gx_ty cA) s) (hr : gx_hr D bs bq cA h H) (hS : va_S (fun q => bs ≤ q) s.heap H locs)
    {q : Nat} {fs : List Value} (he : h[q]? = some (.inr (.inr (ci, fs)))) (hc : vwCl[ci]? = some (C, T, N)) (k : Nat) (hk : k < N) (hlink : (Jvm.Cond.fieldLink own index (T k).1 (T k).2.1 (T k).2.2.1).before args s = true)
    {v : Value} {ty : FieldType} (hl : k < fs.length) (hd : parseFieldDescriptor (T k).2.2.1 = some ty) (hn : narrow ty (gx_tr bs bq v) = gx_tr bs bq v) (hfit : fits ty (gx_tr bs bq v) = true) (hfin : (T k).2.2.2 = false ∨ ((T k).2.2.2 = true ∧ meth.name = "<init>" ∧ (T k).1 = own))
    (hdg : decode cc pc = .ok (.putfield index, 3))
    (kk : ∀ (H1 : Heap) (locs1 : List Loc), gx_hr D bs bq cA (h.set q (.inr (.inr (ci, fs.set k v)))) H1 → va_S (fun q => bs ≤ q) s.heap H1 locs1 → W p l e R s m args below meth c H1 locs1 cells slots F (F0 m (pc + 3) ls rest)) :
    W p l e R s m args below meth c H locs cells slots F (F0 m pc ls (gx_tr bs bq v :: .ref (bs + q) :: rest)) := by
  have hin := gx_inw ci C T N hc
  obtain ⟨ty0, hty, hnm, -⟩ := gx_tys ci C T N hc
  have hap := va_apart (own := own) hts hin ty0 hty hnm hK hc
  obtain ⟨r, h1, cell, q1, q2, q3, q4⟩ := hr.1 q _ (gx_ws_get he)
  have hrr : r = (C, T, N) := Option.some.inj (h1.symm.trans hc)
  subst hrr
  obtain ⟨hSl, hfc, kC, hkC, hkind⟩ := hK.1 ci _ hc
  obtain ⟨cf, kf, fi, f, hi, hsl⟩ := hSl k hk
  have hlay := hts _ (hin _ (u_in_lay hk))
  have hst := (u_facts hfc hkC (u_lays hts hin hk) hi).1
  have hl' : k < (fs.map (gx_tr bs bq)).length := by simpa using hl
  have fin : ∀ (H' : Heap), H'[bs + q]? = some (cell.setSlot f.slot (gx_tr bs bq v)) → H'.size = H.size → (∀ x : Nat, x ≠ bs + q → H'[x]? = H[x]?) → W p l e R s m args below meth c H' (locs ++ [⟨bs + q, f.slot⟩]) cells slots F (F0 m (pc + 3) ls rest) := by
    intro H' e1 e2 e3
    rw [hsl] at e1
    refine kk H' _ (gx_hr_set hr he ⟨_, hc, ?_⟩ e2 e3) (hS.put e2 e3 (Nat.le_add_right _ _))
    show t_OB (bs + q) (D.1 ci) N (D.2 ci) H' (vp_V ((fs.set k v).map (gx_tr bs bq)))
    rw [List.map_set]
    exact t_OB.to (V := updV (vp_V (fs.map (gx_tr bs bq))) k (gx_tr bs bq v)) ⟨_, e1, q2, q3, t_set q4 hap hk (gx_tr bs bq v)⟩ (fun j _ => vp_updV_set hl' (gx_tr bs bq v) j)
  rcases hfin with hfin | ⟨hfin, hin2, hdecl⟩
  · unfold u_lay at hlay
    rw [if_neg (by rw [hfin]; decide)] at hlay
    have h6 := u_store hfc hkC hkind hlay hi hd hn hfit
    exact W.putK hx hb (f := f) ⟨hown, hlink, ⟨_, _, _, hi⟩, hst⟩ (by rw [q2]; exact h6) q1 q3 (by rw [hsl]; exact k2_hasslot (q4 k hk)) rfl rfl hdg fin
  · unfold u_lay at hlay
    rw [if_pos hfin] at hlay
    have hcf : m.cls = cf := by
      obtain ⟨_, _, c', _, _, _, -, -, hf', -, -, -, hown2, -⟩ := Cond.laysFinal_spec hlay
      have e1 : c' = cf := by have := hi.symm.trans hf'; simp at this; exact this.1.symm
      rw [hdecl] at hown2
      rw [← e1]; exact Option.some.inj (hown.symm.trans hown2)
    have h6 := u_fits hfc hkC hkind (Or.inr hlay) hi hd hn hfit
    exact W.putFinK hx hb hown hlink hi hst hcf hin2 (by rw [q2]; exact h6) q1 q3 (by rw [hsl]; exact k2_hasslot (q4 k hk)) rfl rfl hdg fin
theorem gx_upd {cA0 : ClassId} {n j : Nat} {f : Nat → Int32} {y : Int32} : (fun z => Value.int (upd f j y z)) = updV (fun z => Value.int (f z)) j (.int y) := by
  funext z
  by_cases hz : z = j <;> simp [updV, upd, hz]
theorem gx_ias (hx : p.tables.exec = Jvm.exec) (hb : c.code = cc) (hK : va_K D vwCl (gx_ty cA) s) (hr : gx_hr D bs bq cA h H) (hS : va_S (fun q => bs ≤ q) s.heap H locs) {q n : Nat} {f : Nat → Int32} (ha : h[q]? = some (.inl (0, n, f))) {j : Nat} {x : Int32} (hj : j < n) (hn : n < 2147483648) (hdg : decode cc pc = .ok (.iastore, 1))
    (kk : ∀ (H1 : Heap) (locs1 : List Loc), gx_hr D bs bq cA (h.set q (.inl (0, n, upd f j x))) H1 → va_S (fun q => bs ≤ q) s.heap H1 locs1 → W p l e R s m args below meth c H1 locs1 cells slots F (F0 m (pc + 1) ls rest)) :
    W p l e R s m args below meth c H locs cells slots F (F0 m pc ls (.int x :: .int (nI j) :: .ref (bs + q) :: rest)) := by
  have hin : vp_in (nI j) n := vp_in_nI hj hn
  have hcl : (nI j).toNatClampNeg = j := nI_clamp (Nat.lt_trans hj hn)
  refine W.iast hx hb (hr.1 q _ (gx_ws_get ha)) ((hK.2 0 _ rfl).1 n (fun j => .int (f j))) (fun q => by cases q) (by show ¬ (nI j < 0 ∨ (arrV _ _ _).slots.size ≤ _); rw [arrV_size]; exact hin) rfl rfl hdg fun H1 e z oq => ?_
  refine kk H1 _ (gx_hr_set hr ha ?_ z oq) (hS.put z oq (Nat.le_add_right _ _))
  show H1[bs + q]? = some (arrV (cA 0) n (fun z => .int (upd f j x z)))
  rw [e, hcl]
  show some ((arrV (cA 0) n (fun z => .int (f z))).setSlot j (.int x)) = _
  rw [arrV_store, gx_upd (cA0 := cA 0) (n := n)]
theorem gx_bas (hx : p.tables.exec = Jvm.exec) (hb : c.code = cc) (hK : va_K D vwCl (gx_ty cA) s) (hr : gx_hr D bs bq cA h H) (hS : va_S (fun q => bs ≤ q) s.heap H locs) {q n : Nat} {f : Nat → Int32} (ha : h[q]? = some (.inl (1, n, f))) {j : Nat} {x : Int32} (hj : j < n) (hn : n < 2147483648) (hdg : decode cc pc = .ok (.bastore, 1))
    (kk : ∀ (H1 : Heap) (locs1 : List Loc), gx_hr D bs bq cA (h.set q (.inl (1, n, upd f j x.toInt8.toInt32))) H1 → va_S (fun q => bs ≤ q) s.heap H1 locs1 → W p l e R s m args below meth c H1 locs1 cells slots F (F0 m (pc + 1) ls rest)) :
    W p l e R s m args below meth c H locs cells slots F (F0 m pc ls (.int x :: .int (nI j) :: .ref (bs + q) :: rest)) := by
  have hin : vp_in (nI j) n := vp_in_nI hj hn
  have hcl : (nI j).toNatClampNeg = j := nI_clamp (Nat.lt_trans hj hn)
  refine W.bast hx hb (hr.1 q _ (gx_ws_get ha)) ((hK.2 1 _ rfl).1 n (fun j => .int (f j))) (fun q => by cases q) (by show ¬ (nI j < 0 ∨ (arrV _ _ _).slots.size ≤ _); rw [arrV_size]; exact hin) rfl rfl hdg fun H1 e z oq => ?_
  refine kk H1 _ (gx_hr_set hr ha ?_ z oq) (hS.put z oq (Nat.le_add_right _ _))
  show H1[bs + q]? = some (arrV (cA 1) n (fun z => .int (upd f j x.toInt8.toInt32 z)))
  rw [e, hcl, gx_upd (cA0 := cA 0) (n := n), ← arrV_store]
  rfl
theorem gx_aas (hx : p.tables.exec = Jvm.exec) (hb : c.code = cc) (hK : va_K D vwCl (gx_ty cA) s) (hr : gx_hr D bs bq cA h H) (hS : va_S (fun q => bs ≤ q) s.heap H locs) {q n w : Nat} {fs : List Value} {g : Nat → Option Nat} (ha : h[q]? = some (.inr (.inl (n, g)))) (hv : h[w]? = some (.inr (.inr (0, fs)))) {j : Nat} (hj : j < n) (hn : n < 2147483648) (hdg : decode cc pc = .ok (.aastore, 1))
    (kk : ∀ (H1 : Heap) (locs1 : List Loc), gx_hr D bs bq cA (h.set q (.inr (.inl (n, va_up g j (some w))))) H1 → va_S (fun q => bs ≤ q) s.heap H1 locs1 → W p l e R s m args below meth c H1 locs1 cells slots F (F0 m (pc + 1) ls rest)) :
    W p l e R s m args below meth c H locs cells slots F (F0 m pc ls (.ref (bs + w) :: .int (nI j) :: .ref (bs + q) :: rest)) := by
  have hin : vp_in (nI j) n := vp_in_nI hj hn
  have hcl : (nI j).toNatClampNeg = j := nI_clamp (Nat.lt_trans hj hn)
  have hc : vwCl[0]? = some (RX0, TX0, 5) := rfl
  obtain ⟨r', hr', cellV, g1, g2, g3, -⟩ := hr.1 w _ (gx_ws_get hv)
  have hcls := (hK.1 0 _ hc).2
  obtain ⟨kA, comp, k1, k2, k3, -⟩ := (hK.2 2 _ rfl).2
  have hcomp : comp = D.1 0 := Option.some.inj (k3.symm.trans hcls.1)
  subst hcomp
  obtain ⟨kC, hkC, -⟩ := hcls.2
  refine W.aast hx hb (hr.1 q _ (gx_ws_get ha)) (fun q h => by cases h) (fun h => by cases h) k1 k2 rfl hkC ⟨fun z => hin (Or.inl z), by show _ < (arrV _ _ _).slots.size; rw [arrV_size]; exact Nat.not_le.mp fun z => hin (Or.inr z)⟩ g1 (fun q h => by rw [g3] at h; cases h) (by rw [g2]; exact hkC) (by rw [g2]; exact va_assign hcls) rfl rfl hdg fun H1 e z oq => ?_
  refine kk H1 _ (gx_hr_set hr ha ?_ z oq) (hS.put z oq (Nat.le_add_right _ _))
  show H1[bs + q]? = some (arrV (cA 2) n (fun z => va_rf ((va_up g j (some w) z).map (fun q => bs + q))))
  rw [e, hcl]
  show some ((arrV (cA 2) n (fun z => va_rf ((g z).map (fun q => bs + q)))).setSlot j (.ref (bs + w))) = _
  rw [arrV_store]
  congr 2
  funext z
  by_cases hz : z = j
  · subst hz; simp [updV, va_up, va_rf]
  · simp [updV, va_up, hz]
theorem gx_new (hx : p.tables.exec = Jvm.exec) (hb : c.code = cc) {own C : String} {T : u_T} {N ci index : Nat} (hts : ∀ w ∈ gx_tb, w.before args s = true) (hown : s.vm.findClass own = some m.cls) (hK : va_K D vwCl (gx_ty cA) s) (hr : gx_hr D bs bq cA h H) (hS : va_S (fun q => bs ≤ q) s.heap H locs)
    (hc : vwCl[ci]? = some (C, T, N)) (hcl : (Jvm.Cond.classLink own index C).before args s = true) (hinst : (Jvm.Cond.instantiable C N).before args s = true) (hini : (Jvm.Cond.initialized C).before args s = true) (hcells : cells + 1 ≤ R.cells) (hslots : slots + N ≤ R.slots) (hdg : decode cc pc = .ok (.new index, 3))
    (kk : ∀ (H1 : Heap), gx_hr D bs bq cA (h ++ [.inr (.inr (ci, gx_df ci))]) H1 → va_S (fun q => bs ≤ q) s.heap H1 locs → W p l e R s m args below meth c H1 locs (cells + 1) (slots + N) F (F0 m (pc + 3) ls (.ref (bs + h.length) :: rest))) :
    W p l e R s m args below meth c H locs cells slots F (F0 m pc ls rest) := by
  have hin := gx_inw ci C T N hc
  obtain ⟨ty, hty, -, -, hfs⟩ := gx_tys ci C T N hc
  have hKn := hK.1 ci _ hc
  refine W.newcK hx hb hown hcl hinst hini rfl hdg hcells hslots hKn.2.1 hr.2 fun H1 kC hkC e1 z1 o1 => ?_
  have z2 : H1.size = H.size + 1 := by rw [z1, hr.2]
  have o2 : ∀ q : Nat, q < H.size → H1[q]? = H[q]? := fun q hq => o1 q (by rw [← hr.2]; exact hq)
  exact kk H1 (gx_hr_push hr ⟨_, hc, (u_born ty hts hin hKn hkC e1 hty).to (hfs bs bq)⟩ z2 o2) (gx_S_push hS z2 o2)
theorem gx_newa (hx : p.tables.exec = Jvm.exec) (hb : c.code = cc) {atype : ArrayType} (harr : (Jvm.Cond.arrayClass (newarray.typeOf atype)).before args s = true) {t n : Nat} (ht : (t = 0 ∧ atype = .int) ∨ (t = 1 ∧ atype = .byte)) (hK : va_K D vwCl (gx_ty cA) s) (hr : gx_hr D bs bq cA h H) (hS : va_S (fun q => bs ≤ q) s.heap H locs)
    (hn : n ≤ 65536) (hcells : cells + 1 ≤ R.cells) (hslots : slots + n ≤ R.slots) (hdg : decode cc pc = .ok (.newarray atype, 2))
    (kk : ∀ (H1 : Heap), gx_hr D bs bq cA (h ++ [.inl (t, n, fun _ => 0)]) H1 → va_S (fun q => bs ≤ q) s.heap H1 locs → W p l e R s m args below meth c H1 locs (cells + 1) (slots + n) F (F0 m (pc + 2) ls (.ref (bs + h.length) :: rest))) :
    W p l e R s m args below meth c H locs cells slots F (F0 m pc ls (.int (nI n) :: rest)) := by
  have hlt : n < 2 ^ 31 := by omega
  refine va_newaK hx hb harr rfl hdg rfl (nI_pos hlt) (nI_clamp hlt) ?_ hcells hslots hr.2 fun H1 cA' e1 z1 o1 hAr hNm => ?_
  · rcases ht with ⟨-, rfl⟩ | ⟨-, rfl⟩
    · show n * 4 ≤ 536870912; omega
    · show n * 1 ≤ 536870912; omega
  have z2 : H1.size = H.size + 1 := by rw [z1, hr.2]
  have o2 : ∀ q : Nat, q < H.size → H1[q]? = H[q]? := fun q hq => o1 q (by rw [← hr.2]; exact hq)
  refine kk H1 (gx_hr_push hr ?_ z2 o2) (gx_S_push hS z2 o2)
  rcases ht with ⟨rfl, rfl⟩ | ⟨rfl, rfl⟩
  · have h2 : s.vm.findClass ("[" ++ FieldType.int.toString) = some (cA 0) := (hK.2 0 _ rfl).2
    have e : cA' = cA 0 := Option.some.inj (hNm.symm.trans h2)
    subst e
    exact e1
  · have h2 : s.vm.findClass ("[" ++ FieldType.byte.toString) = some (cA 1) := (hK.2 1 _ rfl).2
    have e : cA' = cA 1 := Option.some.inj (hNm.symm.trans h2)
    subst e
    exact e1
theorem gx_newq (hx : p.tables.exec = Jvm.exec) (hb : c.code = cc) {own : String} {index n : Nat} (hown : s.vm.findClass own = some m.cls) (hcl : (Jvm.Cond.classLink own index RX0).before args s = true) (hover : (Jvm.Cond.arrayOver (.object RX0)).before args s = true) (hK : va_K D vwCl (gx_ty cA) s) (hr : gx_hr D bs bq cA h H) (hS : va_S (fun q => bs ≤ q) s.heap H locs)
    (hn : n ≤ 65536) (hcells : cells + 1 ≤ R.cells) (hslots : slots + n ≤ R.slots) (hdg : decode cc pc = .ok (.anewarray index, 3))
    (kk : ∀ (H1 : Heap), gx_hr D bs bq cA (h ++ [.inr (.inl (n, fun _ => none))]) H1 → va_S (fun q => bs ≤ q) s.heap H1 locs → W p l e R s m args below meth c H1 locs (cells + 1) (slots + n) F (F0 m (pc + 3) ls (.ref (bs + h.length) :: rest))) :
    W p l e R s m args below meth c H locs cells slots F (F0 m pc ls (.int (nI n) :: rest)) := by
  have hlt : n < 2 ^ 31 := by omega
  have hcp : (nI n).toNatClampNeg = n := nI_clamp hlt
  refine W.anew hx hb hown hcl hover rfl hdg rfl (nI_pos hlt) (by rw [hcp]; omega) hcells (by rw [hcp]; exact hslots) fun cA' kA comp f1 f2 f3 f4 => ?_
  rw [hcp]
  obtain ⟨-, -, -, -, -, k4⟩ := (hK.2 2 _ rfl).2
  have e : cA' = cA 2 := Option.some.inj (f1.symm.trans k4)
  subst e
  generalize hH1 : H.push ({ cls := cA 2, slots := Array.replicate n .null, vm := .none } : Cell) = H1
  have z1 : H1.size = H.size + 1 := by rw [← hH1, Array.size_push]
  have o1 : ∀ q : Nat, q < H.size → H1[q]? = H[q]? := fun q hq => by rw [← hH1, Array.getElem?_push, if_neg (Nat.ne_of_lt hq)]
  have e1 : H1[bs + h.length]? = some (arrV (cA 2) n (fun _ => .null)) := by rw [← hr.2, ← hH1, Array.getElem?_push_size, ← arrV_new]
  have k := kk H1 (gx_hr_push hr e1 z1 o1) (gx_S_push hS z1 o1)
  rw [hr.2]
  exact k
/-- behind a call -/
theorem gx_cal {Q' : gx_Q} {mc ms : Nat} {a : Array Value} {st0 : List Value} (hr : va_Run p l e R s m args below meth c H locs cells slots mc ms (F0 m pc ls st0) rest (gx_pst D bs bq cA Q' a) (fun q => bs ≤ q)) (hS : va_S (fun q => bs ≤ q) s.heap H locs)
    (kk : ∀ (r : Option Value) (h1 : gx_H) (H1 : Heap) (locs1 : List Loc), Q' r h1 → gx_hr D bs bq cA h1 H1 → va_S (fun q => bs ≤ q) s.heap H1 locs1 → W p l e R s m args below meth c H1 locs1 (cells + mc) (slots + ms) F (F0 m (pc + 3) ls ((r.map (gx_tr bs bq)).toList ++ rest))) :
    W p l e R s m args below meth c H locs cells slots F (F0 m pc ls st0) := by
  intro T hT X
  obtain ⟨v, st₀, t, T', L, h0, X', hL, e1, e2, ⟨⟨r, h1, hq, hv, hh⟩, hz, hk⟩, st⟩ := hr T hT X
  cases hv
  rw [h0] at hz hk
  obtain ⟨t2, a1, b1⟩ := kk r h1 T'.heap (locs ++ L) hq (by rw [e1]; exact hh) ⟨Nat.le_trans hS.1 (by rw [e1]; exact hz), fun q h1 h2 => by rw [e1, hk q (Nat.lt_of_lt_of_le h1 hS.1) h2]; exact hS.2.1 q h1 h2, fun q hq => by
      rcases List.mem_append.mp hq with h | h
      · exact hS.2.2 q h
      · exact hL q h⟩ T' rfl X'
  exact ⟨t2, st t2 a1, b1⟩
end GXR
