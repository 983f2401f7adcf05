/-! The own machine's words over the kit's worlds: addresses from bs on, the script at bq. -/
def gx_tr (bs bq : Nat) (v : Value) : Value := match v with
  | .ref q => .ref (bs + q)
  | .retAddr _ => .ref bq
  | v => v
def gx_ce (bs bq : Nat) (cA : Nat → ClassId) (a : gx_A) : va_E := match a with
  | .inl (t, n, f) => .inl (cA t, n, .inl f)
  | .inr (.inl (n, g)) => .inl (cA 2, n, .inr (.inr (.inr (.inr (fun j => (g j).map (fun q => bs + q))))))
  | .inr (.inr (ci, fs)) => .inr (ci, fs.map (gx_tr bs bq))
def gx_ws (bs bq : Nat) (cA : Nat → ClassId) (h : gx_H) : va_W := h.mapIdx fun i a => (bs + i, gx_ce bs bq cA a)
theorem gx_ws_get {bs bq : Nat} {cA : Nat → ClassId} {h : gx_H} {k : Nat} {a : gx_A} (hk : h[k]? = some a) : (gx_ws bs bq cA h)[k]? = some (bs + k, gx_ce bs bq cA a) := by
  simp [gx_ws, hk]
theorem gx_ws_of {bs bq : Nat} {cA : Nat → ClassId} {h : gx_H} {k : Nat} {q : Nat × va_E} (hk : (gx_ws bs bq cA h)[k]? = some q) : ∃ a, h[k]? = some a ∧ q = (bs + k, gx_ce bs bq cA a) := by
  simp only [gx_ws, List.getElem?_mapIdx, Option.map_eq_some_iff] at hk
  obtain ⟨a, h1, h2⟩ := hk
  exact ⟨a, h1, h2.symm⟩
theorem gx_ws_set {bs bq : Nat} {cA : Nat → ClassId} {h : gx_H} {k : Nat} {a : gx_A} : (gx_ws bs bq cA h).set k (bs + k, gx_ce bs bq cA a) = gx_ws bs bq cA (h.set k a) := by
  apply List.ext_getElem?
  intro i
  simp only [gx_ws, List.getElem?_set, List.getElem?_mapIdx, List.length_mapIdx]
  by_cases e : k = i
  · subst e
    by_cases l : k < h.length <;> simp [l]
  · simp [e]
theorem gx_ws_app {bs bq : Nat} {cA : Nat → ClassId} {h : gx_H} {a : gx_A} : gx_ws bs bq cA h ++ [(bs + h.length, gx_ce bs bq cA a)] = gx_ws bs bq cA (h ++ [a]) := by
  simp [gx_ws, List.mapIdx_append]
theorem gx_ws_len {bs bq : Nat} {cA : Nat → ClassId} {h : gx_H} : (gx_ws bs bq cA h).length = h.length := by simp [gx_ws]
theorem gx_ws_D {bs bq : Nat} {cA : Nat → ClassId} {h : gx_H} : va_D (fun q => bs ≤ q) (gx_ws bs bq cA h) := by
  refine ⟨fun i j p q hi hj e => ?_, fun k q hk => ?_⟩
  · obtain ⟨a, -, rfl⟩ := gx_ws_of hi
    obtain ⟨a2, -, rfl⟩ := gx_ws_of hj
    have : bs + i = bs + j := e
    omega
  · obtain ⟨a, -, rfl⟩ := gx_ws_of hk
    exact Nat.le_add_right _ _
def gx_hr (D : va_G) (bs bq : Nat) (cA : Nat → ClassId) (h : gx_H) (H : Heap) : Prop := va_P D vwCl (gx_ws bs bq cA h) H ∧ H.size = bs + h.length
abbrev gx_ty (cA : Nat → ClassId) : List (ClassId × FieldType) := [(cA 0, .int), (cA 1, .byte), (cA 2, .object RX0)]
/-- the locals -/
def gx_lv (bs bq : Nat) (L : gx_L) : List (Nat × Value) := (List.range L.length).filterMap fun i => match L[i]? with
  | some (some v) => some (i, gx_tr bs bq v)
  | _ => none
theorem gx_lv_mem {bs bq : Nat} {L : gx_L} {q : Nat × Value} : q ∈ gx_lv bs bq L ↔ ∃ v, L[q.1]? = some (some v) ∧ q.2 = gx_tr bs bq v := by
  unfold gx_lv
  rw [List.mem_filterMap]
  constructor
  · rintro ⟨i, -, hi⟩
    split at hi
    · rename_i v hv
      cases hi
      exact ⟨v, hv, rfl⟩
    · cases hi
  · rintro ⟨v, hv, e⟩
    refine ⟨q.1, List.mem_range.mpr (List.getElem?_eq_some_iff.mp hv).1, ?_⟩
    rw [hv]
    show some (q.1, gx_tr bs bq v) = some q
    rw [← e]
def gx_lh (bs bq : Nat) (nL : Nat) (ls : Array Slot) (L : gx_L) : Prop := lv_has ls nL (gx_lv bs bq L) ∧ L.length = nL ∧ ∀ (i : Nat) (v : Value), L[i]? = some (some v) → v.category = 1
theorem gx_tr_cat (bs bq : Nat) (v : Value) : (gx_tr bs bq v).category = v.category := by cases v <;> rfl
theorem gx_lh_get {bs bq nL : Nat} {ls : Array Slot} {L : gx_L} (h : gx_lh bs bq nL ls L) {i : Nat} {v : Value} (hv : L[i]? = some (some v)) : ls[i]? = some (.val (gx_tr bs bq v)) :=
  h.1.2.2 (i, gx_tr bs bq v) (gx_lv_mem.mpr ⟨v, hv, rfl⟩)
/-- behind a store the kit's list holds ours -/
theorem gx_lh_set {bs bq nL : Nat} {ls ls' : Array Slot} {L : gx_L} (h : gx_lh bs bq nL ls L) {i : Nat} {v : Value} (hc : v.category = 1)
    (h' : lv_has ls' nL ((i, gx_tr bs bq v) :: (gx_lv bs bq L).filter (fun q => !(q.1 == i) && !(q.1 + 1 == i && q.2.category == 2)))) : gx_lh bs bq nL ls' (L.set i (some v)) := by
  refine ⟨⟨h'.1, h'.2.1, fun q hq => h'.2.2 q ?_⟩, by rw [List.length_set]; exact h.2.1, fun j w hw => ?_⟩
  · obtain ⟨w, hw, e⟩ := gx_lv_mem.mp hq
    rw [List.getElem?_set] at hw
    by_cases e2 : i = q.1
    · rw [if_pos e2] at hw
      split at hw
      · cases hw
        refine List.mem_cons.mpr (Or.inl ?_)
        exact Prod.ext e2.symm e
      · cases hw
    · rw [if_neg e2] at hw
      refine List.mem_cons.mpr (Or.inr (List.mem_filter.mpr ⟨gx_lv_mem.mpr ⟨w, hw, e⟩, ?_⟩))
      have h1 : w.category = 1 := h.2.2 _ _ hw
      have h2 : q.2.category = 1 := by rw [e, gx_tr_cat]; exact h1
      have h3 : (q.1 == i) = false := by simpa using fun z : q.1 = i => e2 z.symm
      simp [h3, h2]
  · rw [List.getElem?_set] at hw
    by_cases e2 : i = j
    · rw [if_pos e2] at hw
      split at hw
      · cases hw; exact hc
      · cases hw
    · rw [if_neg e2] at hw
      exact h.2.2 _ _ hw
theorem gx_sl1 : ∀ (vs : List Value), (∀ v ∈ vs, v.category = 1) → lg_sl vs = vs.map Slot.val
  | [], _ => rfl
  | v :: vs, h => by
    have h1 : ¬ v.category = 2 := by rw [h v List.mem_cons_self]; decide
    have ih := gx_sl1 vs fun w hw => h w (List.mem_cons_of_mem _ hw)
    unfold lg_sl at ih ⊢
    rw [List.flatMap_cons, ih, if_neg h1]
    rfl
theorem gx_args : ∀ (vs : List Value) (k : Nat), (∀ v ∈ vs, v.category = 1) → ∀ i w, vs[i]? = some w → (k + i, w) ∈ lv_args k vs
  | [], _, _, i, w, h => by simp at h
  | v :: vs, k, hc, i, w, h => by
    have h1 : ¬ v.category = 2 := by rw [hc v List.mem_cons_self]; decide
    unfold lv_args
    rw [if_neg h1]
    cases i with
    | zero =>
      rw [List.getElem?_cons_zero] at h
      cases h
      exact List.mem_cons_self
    | succ i =>
      rw [List.getElem?_cons_succ] at h
      refine List.mem_cons_of_mem _ ?_
      have := gx_args vs (k + 1) (fun v hv => hc v (List.mem_cons_of_mem _ hv)) i w h
      rw [show k + (i + 1) = k + 1 + i by omega]
      exact this
/-- the locals at a method's entry -/
theorem gx_entry {bs bq nL : Nat} {av : List Value} (hc : ∀ v ∈ av, v.category = 1) (hn : av.length ≤ nL) :
    gx_lh bs bq nL ((lg_sl (av.map (gx_tr bs bq)) ++ List.replicate (nL - (lg_sl (av.map (gx_tr bs bq))).length) Slot.unset).toArray) (gx_l0 av nL) := by
  have hc2 : ∀ v ∈ av.map (gx_tr bs bq), v.category = 1 := fun v hv => by
    obtain ⟨w, hw, rfl⟩ := List.mem_map.mp hv
    rw [gx_tr_cat]; exact hc w hw
  have hl : (lg_sl (av.map (gx_tr bs bq))).length = av.length := by rw [gx_sl1 _ hc2]; simp
  have h0 := lv_entry (av.map (gx_tr bs bq)) (n := nL) (by rw [hl]; exact hn)
  have hget : ∀ (i : Nat) (v : Value), (gx_l0 av nL)[i]? = some (some v) → av[i]? = some v := by
    intro i v hv
    unfold gx_l0 at hv
    by_cases hi : i < av.length
    · rw [List.getElem?_append_left (by simpa using hi), List.getElem?_map] at hv
      rw [List.getElem?_eq_getElem hi] at hv ⊢
      simpa using hv
    · rw [List.getElem?_append_right (by simpa using hi)] at hv
      have := List.mem_of_getElem? hv
      simp at this
  refine ⟨⟨h0.1, h0.2.1, fun q hq => h0.2.2 q ?_⟩, by unfold gx_l0; simp; omega, fun i v hv => hc v (List.mem_of_getElem? (hget i v hv))⟩
  obtain ⟨v, hv, e⟩ := gx_lv_mem.mp hq
  have h1 := hget _ _ hv
  have h2 := gx_args (av.map (gx_tr bs bq)) 0 hc2 q.1 (gx_tr bs bq v) (by rw [List.getElem?_map, h1]; rfl)
  rw [Nat.zero_add, ← e] at h2
  exact h2
/-- what a method's entry knows of tables and script -/
def gx_cx (D : va_G) (bs bq : Nat) (cA : Nat → ClassId) (LL : Nat) (xs : Nat → Int32) (U : State) : Prop := va_K D vwCl (gx_ty cA) U ∧ va_X bq LL xs U U.heap ∧ bq < bs ∧ bs ≤ U.heap.size ∧ va_AO RX0 U ∧ gx_NL U
def gx_pre (D : va_G) (bs bq : Nat) (cA : Nat → ClassId) (LL : Nat) (xs : Nat → Int32) (h : gx_H) (U : State) : Prop := gx_hr D bs bq cA h U.heap ∧ gx_cx D bs bq cA LL xs U
def gx_pst (D : va_G) (bs bq : Nat) (cA : Nat → ClassId) (Q : gx_Q) : Array Value → State → Outcome → State → Prop := fun _ st oc t =>
  (∃ r h1, Q r h1 ∧ oc = .returned (r.map (gx_tr bs bq)) ∧ gx_hr D bs bq cA h1 t.heap) ∧ va_F (fun q => bs ≤ q) st t
def gx_rm (d mc ms : Nat) : Room := { frames := d, cells := mc, slots := ms, locals := 27 * d }
abbrev gx_wy (y : MethodName) (bc : ByteArray) (nL : Nat) (ret : Option FieldType) : List Jvm.Cond := .code y bc nL ret :: gx_tb
/-- a method's contract over the machine -/
def gx_met (l : Launch) (D : va_G) (bs bq : Nat) (cA : Nat → ClassId) (LL : Nat) (xs : Nat → Int32) (d : Nat) (e : gx_M) (mc ms : Nat) (av : List Value) (h : gx_H) (Q : gx_Q) : Prop :=
  Met l e.1 (gx_wy e.1 e.2.1 e.2.2.1 e.2.2.2.1) (gx_rm d mc ms) (va_Pc (av.map (gx_tr bs bq)) (gx_pre D bs bq cA LL xs h)) (gx_pst D bs bq cA Q) mc ms (fun q => bs ≤ q)
theorem gx_good : GoodIn gx_tb gx_tb := fun w hw => ⟨hw, good_of_word (List.mem_filter.mp hw).2⟩
theorem gx_blind {D : va_G} {bs bq : Nat} {cA : Nat → ClassId} {LL : Nat} {xs : Nat → Int32} {h : gx_H} {av : List Value} : FrameBlind (va_Pc av (gx_pre D bs bq cA LL xs h)) := fun a U g mk q =>
  ⟨q.1, q.2.1, va_K.moved (u := U) (U := U.calling g mk a) (Vm.Alike.refl U.vm) q.2.2.1, va_X.moved (u := U) (U := U.calling g mk a) (Vm.Alike.refl U.vm) q.2.2.2.1, q.2.2.2.2.1, q.2.2.2.2.2.1, va_AO.moved (u := U) (U := U.calling g mk a) (Vm.Alike.refl U.vm) q.2.2.2.2.2.2.1, gx_NL_same (s := U) (U := U.calling g mk a) rfl q.2.2.2.2.2.2.2⟩
