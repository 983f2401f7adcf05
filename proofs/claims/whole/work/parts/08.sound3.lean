/-! Soundness: what our machine brings to its end, the kit's machine does. -/
theorem gx_sw_at {x : Int32} {k : Nat → Prop} : ∀ {ts : List Nat} {j0 j t : Nat}, gx_sw x k ts j0 → ts[j]? = some t → x = nI (j0 + j) → k t
  | [], _, j, _, _, h, _ => by simp at h
  | t0 :: ts, j0, j, t, hs, h, hx => by
    unfold gx_sw at hs
    cases j with
    | zero =>
      rw [List.getElem?_cons_zero] at h
      cases h
      exact hs.1 (by rw [hx, Nat.add_zero])
    | succ j =>
      rw [List.getElem?_cons_succ] at h
      exact gx_sw_at hs.2 h (by rw [hx]; congr 1; omega)
theorem gx_lko (x : Int) (d : Int) : ∀ ps : List (Int × Int), (∃ (j : Nat) (o : Int × Int), ps[j]? = some o ∧ o.1 = x ∧ Op.lookupswitch.offset ps d x = o.2) ∨ ((∀ o ∈ ps, o.1 ≠ x) ∧ Op.lookupswitch.offset ps d x = d)
  | [] => Or.inr ⟨fun o h => absurd h List.not_mem_nil, rfl⟩
  | (a, o) :: r => by
    rw [Op.lookupswitch.offset_cons]
    by_cases h : a = x
    · exact Or.inl ⟨0, (a, o), rfl, h, by rw [if_pos h]⟩
    · rw [if_neg h]
      rcases gx_lko x d r with ⟨j, q, h1, h2, h3⟩ | ⟨h1, h2⟩
      · exact Or.inl ⟨j + 1, q, by rw [List.getElem?_cons_succ]; exact h1, h2, h3⟩
      · refine Or.inr ⟨fun q hq => ?_, h2⟩
        rcases List.mem_cons.mp hq with rfl | hq
        · exact fun e => h e
        · exact h1 q hq
theorem gx_of_at {cd : List gx_T} {pc : Nat} {offs : Array Int} {ts : List Nat} (h : gx_of cd pc offs ts = true) {j : Nat} (hj : j < ts.length) : ∃ o t, offs[j]? = some o ∧ ts[j]? = some t ∧ (pc : Int) + o = (gx_pc cd t : Int) := by
  have h1 := List.all_eq_true.mp h j (List.mem_range.mpr hj)
  split at h1
  · rename_i o t e1 e2
    exact ⟨o, t, e1, e2, of_decide_eq_true h1⟩
  · cases h1
theorem gx_lk_at {cd : List gx_T} {pc b : Nat} {ps : Array (Int × Int)} {ts : List Nat} (h : gx_lk cd pc b ps ts = true) {j : Nat} (hj : j < ts.length) : ∃ o t, ps[j]? = some o ∧ ts[j]? = some t ∧ o.1 = ((b + j : Nat) : Int) ∧ (pc : Int) + o.2 = (gx_pc cd t : Int) := by
  have h1 := List.all_eq_true.mp h j (List.mem_range.mpr hj)
  split at h1
  · rename_i o t e1 e2
    rw [Bool.and_eq_true] at h1
    exact ⟨o, t, e1, e2, of_decide_eq_true h1.1, of_decide_eq_true h1.2⟩
  · cases h1
theorem gx_cat_tr {bs bq : Nat} (vs : List Value) : ((vs.map (gx_tr bs bq)).map fun v => v.category).sum = gx_cat vs := by
  unfold gx_cat
  rw [List.map_map]
  congr 1
  exact List.map_congr_left fun v _ => gx_tr_cat bs bq v
theorem gx_nIx {x : Int32} {n : Nat} (h : x.toInt = (n : Int)) (hn : n < 2147483648) : x = nI n := Int32.toInt_inj.mp (by rw [nI_toInt (show n < 2 ^ 31 from hn)]; exact h)
theorem gx_b_0 {x y : Prop} : gx_b 0 x y = x := rfl
theorem gx_b_s {x y : Prop} {n : Nat} : gx_b (n + 1) x y = y := rfl
/-- a return's instruction, and what it gives -/
def gx_rt (bc : ByteArray) (ret : Option FieldType) (pc : Nat) (v : Option Value) : Prop :=
  (∃ x : Int32, v = some (.int x) ∧ decode bc pc = .ok (.ireturn, 1) ∧ (ret = some .int ∨ (ret = some .boolean ∧ (x = nI 0 ∨ x = nI 1)))) ∨ (v = none ∧ decode bc pc = .ok (.return_, 1) ∧ ret = none) ∨
  (∃ w : Value, v = some w ∧ (w = .null ∨ ∃ a, w = .ref a) ∧ decode bc pc = .ok (.areturn, 1) ∧ ∃ rt, ret = some rt ∧ ((∃ n, rt = .object n) ∨ ∃ t, rt = .array t))
theorem gx_call_args {LL : Nat} {xs : Nat → Int32} {d z mc ms : Nat} {av : List Value} {h : gx_H} {Q : gx_Q} {e : gx_M} (he : gx_mt[z]? = some e) (h1 : gx_call LL xs d z mc ms av h Q) : (∀ v ∈ av, v.category = 1) ∧ av.length = e.2.2.2.2.1 := by
  cases d with
  | zero => exact h1.elim
  | succ d =>
    unfold gx_call at h1
    rw [he] at h1
    obtain ⟨y, bc, n, ret, na, kd, cd, ws⟩ := e
    exact ⟨fun v hv => by simpa using List.all_eq_true.mp h1.1 v hv, h1.2.1⟩
/-- what every method of the list keeps -/
theorem gx_zfact {z : Nat} {y : MethodName} {bc : ByteArray} {nL : Nat} {ret : Option FieldType} {na kd : Nat} {cd : List gx_T} {ws : List Nat} (hz : gx_mt[z]? = some (y, bc, nL, ret, na, kd, cd, ws)) :
    Jvm.Cond.code y bc nL ret ∈ gx_tb ∧ Jvm.Cond.initialized y.cls ∈ gx_tb ∧ (y.cls ≠ "java/lang/invoke/MethodHandle" ∧ y.cls ≠ "java/lang/invoke/VarHandle") ∧ plainFor y = true ∧ nL ≤ 8 ∧ na ≤ nL ∧
    (kd = 0 → Jvm.Cond.static y ∈ gx_tb ∧ ∀ sig, parseMethodDescriptor y.desc = some sig → na = sig.parameters.length) ∧ (kd ≠ 0 → Jvm.Cond.instanceMethod y ∈ gx_tb ∧ 0 < na ∧ ∀ sig, parseMethodDescriptor y.desc = some sig → na - 1 = sig.parameters.length) ∧ ∀ i, gx_ok y.cls y.name bc ret nL cd i = true := by
  have h := zk_all _ (List.mem_of_getElem? hz)
  unfold gx_zok at h
  simp only [Bool.and_eq_true, decide_eq_true_eq] at h
  obtain ⟨⟨⟨⟨⟨⟨⟨⟨h1, h2⟩, h3⟩, h4⟩, h5⟩, h6⟩, h7⟩, h8⟩, h9⟩ := h
  refine ⟨gx_wd_in h1, gx_wd_in h2, ⟨h3, h4⟩, h5, h6, h7, fun hk => ?_, fun hk => ?_, fun i => ?_⟩
  · subst hk
    simp only [Bool.and_eq_true, decide_eq_true_eq] at h8
    exact ⟨gx_wd_in h8.1, fun sig hs => by have := h8.2; rw [hs] at this; exact (Option.some.inj this).symm⟩
  · obtain ⟨k, rfl⟩ := Nat.exists_eq_succ_of_ne_zero hk
    simp only [Bool.and_eq_true, decide_eq_true_eq] at h8
    exact ⟨gx_wd_in h8.1.1, h8.1.2, fun sig hs => by have := h8.2; rw [hs] at this; exact (Option.some.inj this).symm⟩
  · by_cases hi : i < cd.length
    · exact List.all_eq_true.mp h9 i (List.mem_range.mpr hi)
    · unfold gx_ok
      rw [List.getElem?_eq_none (Nat.not_lt.mp hi)]
theorem gx_pay {args : Array Value} {s : State} (hts : ∀ w ∈ gx_tb, w.before args s = true) {y : MethodName} {bc : ByteArray} {nL : Nat} {ret : Option FieldType} (hc : Jvm.Cond.code y bc nL ret ∈ gx_tb) : ∀ w ∈ gx_wy y bc nL ret, ∀ (a' : Array Value) (U : State), s.WarmedH U.vm → w.before a' U = true :=
  pay_in hts fun w hw => (List.mem_cons.mp hw).elim (fun e => by subst e; exact gx_good _ hc) (fun h => gx_good w h)
/-- in(long, long, long) over the machine -/
def gx_met_in (l : Launch) : Prop := ∀ x y z : Int64, Met l yX3_in (gx_wy yX3_in cX3_in 6 (some .boolean)) rm0 (va_Pc [.long x, .long y, .long z] (fun _ => True)) (QcRead (if y ≤ x ∧ x ≤ z then nI 1 else nI 0)) 0 0 (fun _ => False)
section GXB
variable {p : Program} {l : Launch} {e : Env} {R : Room} {s : State} {m : MethodId} {args : Array Value} {below : List Frame} {meth : Method} {c : Code}
set_option maxHeartbeats 4000000 in
theorem gx_body {F : State → Prop} {D : va_G} {bs bq : Nat} {cA : Nat → ClassId} {LL : Nat} {xs : Nat → Int32} {d : Nat} {own mn : String} {bc : ByteArray} {ret : Option FieldType} {nL : Nat} {cd : List gx_T} {Q : gx_Q} {MC MS : Nat}
    (hx : p.tables.exec = Jvm.exec) (hb : c.code = bc) (hml : c.maxLocals = nL) (hown : s.vm.findClass own = some m.cls) (hts : ∀ w ∈ gx_tb, w.before args s = true) (hmn : mn = "<init>" → meth.name = mn) (hcx : gx_cx D bs bq cA LL xs s) (hok : ∀ i, gx_ok own mn bc ret nL cd i = true)
    (hRf : d + 1 ≤ R.frames) (hRl : 27 * (d + 1) ≤ R.locals) (hRC : R.cells = MC) (hRS : R.slots = MS) (hmi : gx_met_in l)
    (hIH : ∀ (z mc ms : Nat) (av : List Value) (h : gx_H) (Q' : gx_Q) (e0 : gx_M), gx_mt[z]? = some e0 → gx_call LL xs d z mc ms av h Q' → gx_met l D bs bq cA LL xs d e0 mc ms av h Q')
    (hret : ∀ (v : Option Value) (h1 : gx_H) (H : Heap) (locs : List Loc) (cells slots pc : Nat) (ls : Array Slot), Q v h1 → gx_hr D bs bq cA h1 H → va_S (fun q => bs ≤ q) s.heap H locs → cells ≤ MC → slots ≤ MS → gx_rt bc ret pc v →
      W p l e R s m args below meth c H locs cells slots F (F0 m pc ls (v.map (gx_tr bs bq)).toList))
    {i : Nat} {L : gx_L} {st : List Value} {h : gx_H} {cb sb : Nat} (hE : gx_E LL xs (gx_call LL xs d) cd Q i L st h cb sb) :
    ∀ (H : Heap) (locs : List Loc) (ls : Array Slot) (cells slots : Nat), gx_hr D bs bq cA h H → va_S (fun q => bs ≤ q) s.heap H locs → gx_lh bs bq nL ls L → cells + cb = MC → slots + sb = MS →
      W p l e R s m args below meth c H locs cells slots F (F0 m (gx_pc cd i) ls (st.map (gx_tr bs bq))) := by
  obtain ⟨hK, hX, hbq, hbs, hAO, hNL⟩ := hcx
  have hA : ∀ q : Nat, s.heap.size ≤ q → bs ≤ q := fun q hq => Nat.le_trans hbs hq
  refine hE (fun i L st h cb sb => ∀ (H : Heap) (locs : List Loc) (ls : Array Slot) (cells slots : Nat), gx_hr D bs bq cA h H → va_S (fun q => bs ≤ q) s.heap H locs → gx_lh bs bq nL ls L → cells + cb = MC → slots + sb = MS →
      W p l e R s m args below meth c H locs cells slots F (F0 m (gx_pc cd i) ls (st.map (gx_tr bs bq)))) ?_
  clear hE
  intro k hk i L st h cb sb h1 H locs ls cells slots hr hS hL hc0 hs0
  have hoki := hok i
  unfold gx_1 at h1
  unfold gx_ok at hoki
  cases hcd : cd[i]? with
  | none => rw [hcd] at h1; exact h1.elim
  | some en =>
  obtain ⟨pc, ins, a, b, c0, ts⟩ := en
  have hpc : gx_pc cd i = pc := by unfold gx_pc; rw [hcd]
  rw [hcd] at h1 hoki
  rw [hpc]
  clear hpc hok
  -- one instruction on, with the stack of a continuation
  have go : ∀ {i' : Nat} {L' : gx_L} {st' : List Value} {h' : gx_H} {cb' sb' : Nat}, k i' L' st' h' cb' sb' → ∀ {H' : Heap} {locs' : List Loc} {ls' : Array Slot} {cells' slots' pc' : Nat}, gx_pc cd i' = pc' → gx_hr D bs bq cA h' H' → va_S (fun q => bs ≤ q) s.heap H' locs' → gx_lh bs bq nL ls' L' → cells' + cb' = MC → slots' + sb' = MS →
      W p l e R s m args below meth c H' locs' cells' slots' F (F0 m pc' ls' (st'.map (gx_tr bs bq))) := by
    intro i' L' st' h' cb' sb' hk1 H' locs' ls' cells' slots' pc' e1 a1 a2 a3 a4 a5
    rw [← e1]
    exact hk _ _ _ _ _ _ hk1 H' locs' ls' cells' slots' a1 a2 a3 a4 a5
  clear hk
  cases ins with
  | iconst v =>
    try dsimp only at h1
    simp only [gx_st, Bool.and_eq_true, decide_eq_true_eq] at hoki
    obtain ⟨⟨h2, h3⟩, h4⟩ := hoki
    cases b with
    | zero => exact lv_iconst hx hb h2 (of_decide_eq_true h4) (go h1 h3 hr hS hL hc0 hs0)
    | succ b => exact lv_iconst hx hb h2 (of_decide_eq_true h4) (go h1 h3 hr hS hL hc0 hs0)
  | bipush v =>
    try dsimp only at h1
    simp only [gx_st, Bool.and_eq_true, decide_eq_true_eq] at hoki
    obtain ⟨⟨h2, h3⟩, h4⟩ := hoki
    cases b with
    | zero => exact lv_bipush hx hb h2 (of_decide_eq_true h4) (go h1 h3 hr hS hL hc0 hs0)
    | succ b => exact lv_bipush hx hb h2 (of_decide_eq_true h4) (go h1 h3 hr hS hL hc0 hs0)
  | sipush v =>
    try dsimp only at h1
    simp only [gx_st, Bool.and_eq_true, decide_eq_true_eq] at hoki
    obtain ⟨⟨h2, h3⟩, h4⟩ := hoki
    cases b with
    | zero => exact lv_sipush hx hb h2 (of_decide_eq_true h4) (go h1 h3 hr hS hL hc0 hs0)
    | succ b => exact lv_sipush hx hb h2 (of_decide_eq_true h4) (go h1 h3 hr hS hL hc0 hs0)
  | aconst_null =>
    try dsimp only at h1
    simp only [gx_st, Bool.and_eq_true, decide_eq_true_eq] at hoki
    exact lv_null hx hb hoki.1 (go h1 hoki.2 hr hS hL hc0 hs0)
  | lconst v =>
    try dsimp only at h1
    simp only [gx_st, Bool.and_eq_true, decide_eq_true_eq] at hoki
    obtain ⟨⟨h2, h3⟩, h4⟩ := hoki
    exact lv_lconst hx hb h2 h4 (go h1 h3 hr hS hL hc0 hs0)
  | ldc2_w ix =>
    try dsimp only at h1
    simp only [gx_st, Bool.and_eq_true, decide_eq_true_eq] at hoki
    obtain ⟨⟨h2, h3⟩, h4⟩ := hoki
    exact lv_ldc2 hx hb hown (hts _ (gx_wd_in h4)) h2 (go h1 h3 hr hS hL hc0 hs0)
  | iload v =>
    try dsimp only at h1
    simp only [gx_st, Bool.and_eq_true, decide_eq_true_eq] at hoki
    obtain ⟨⟨h2, h3⟩, h4⟩ := hoki
    subst h4
    unfold gx_li at h1
    split at h1
    · rename_i x hx2
      exact lv_iload hx hb h2 (gx_lh_get hL hx2) (go h1 h3 hr hS hL hc0 hs0)
    · exact h1.elim
  | iload_n v =>
    try dsimp only at h1
    simp only [gx_st, Bool.and_eq_true, decide_eq_true_eq] at hoki
    obtain ⟨⟨h2, h3⟩, h4⟩ := hoki
    unfold gx_li at h1
    split at h1
    · rename_i x hx2
      exact lv_iload_n hx hb h2 h4 (gx_lh_get hL hx2) (go h1 h3 hr hS hL hc0 hs0)
    · exact h1.elim
  | aload v =>
    try dsimp only at h1
    simp only [gx_st, Bool.and_eq_true, decide_eq_true_eq] at hoki
    obtain ⟨⟨h2, h3⟩, h4⟩ := hoki
    subst h4
    unfold gx_la at h1
    split at h1
    · rename_i q hx2
      exact lv_aload hx hb h2 (gx_lh_get hL hx2) (go h1 h3 hr hS hL hc0 hs0)
    · rename_i hx2
      exact lv_aloadN hx hb h2 (gx_lh_get hL hx2) (go h1 h3 hr hS hL hc0 hs0)
    · rename_i q hx2
      exact lv_aload hx hb h2 (gx_lh_get hL hx2) (go h1 h3 hr hS hL hc0 hs0)
    · exact h1.elim
  | aload_n v =>
    try dsimp only at h1
    simp only [gx_st, Bool.and_eq_true, decide_eq_true_eq] at hoki
    obtain ⟨⟨h2, h3⟩, h4⟩ := hoki
    unfold gx_la at h1
    split at h1
    · rename_i q hx2
      exact lv_aload_n hx hb h2 h4 (gx_lh_get hL hx2) (go h1 h3 hr hS hL hc0 hs0)
    · rename_i hx2
      exact lv_aload_nN hx hb h2 h4 (gx_lh_get hL hx2) (go h1 h3 hr hS hL hc0 hs0)
    · rename_i q hx2
      exact lv_aload_n hx hb h2 h4 (gx_lh_get hL hx2) (go h1 h3 hr hS hL hc0 hs0)
    · exact h1.elim
  | istore v =>
    try dsimp only at h1
    simp only [gx_st, Bool.and_eq_true, decide_eq_true_eq] at hoki
    obtain ⟨⟨⟨h2, h3⟩, h4⟩, h5⟩ := hoki
    subst h4
    unfold gx_I1 at h1
    split at h1
    · rename_i x r
      exact lv_istore hx hb h2 hL.1 h5 rfl (fun ls' hl' => go h1 h3 hr hS (gx_lh_set hL rfl hl') hc0 hs0)
    · exact h1.elim
  | istore_n v =>
    try dsimp only at h1
    simp only [gx_st, Bool.and_eq_true, decide_eq_true_eq] at hoki
    obtain ⟨⟨⟨h2, h3⟩, h4⟩, h5⟩ := hoki
    unfold gx_I1 at h1
    split at h1
    · rename_i x r
      exact lv_istore_n hx hb h2 h4 hL.1 h5 rfl (fun ls' hl' => go h1 h3 hr hS (gx_lh_set hL rfl hl') hc0 hs0)
    · exact h1.elim
  | astore v =>
    try dsimp only at h1
    simp only [gx_st, Bool.and_eq_true, decide_eq_true_eq] at hoki
    obtain ⟨⟨⟨h2, h3⟩, h4⟩, h5⟩ := hoki
    subst h4
    unfold gx_R1 at h1
    split at h1
    · exact lv_astore hx hb h2 hL.1 h5 rfl (fun ls' hl' => go h1 h3 hr hS (gx_lh_set hL rfl hl') hc0 hs0)
    · exact lv_astoreN hx hb h2 hL.1 h5 rfl (fun ls' hl' => go h1 h3 hr hS (gx_lh_set hL rfl hl') hc0 hs0)
    · exact lv_astore hx hb h2 hL.1 h5 rfl (fun ls' hl' => go h1 h3 hr hS (gx_lh_set (v := .retAddr _) hL rfl hl') hc0 hs0)
    · exact h1.elim
  | astore_n v =>
    try dsimp only at h1
    simp only [gx_st, Bool.and_eq_true, decide_eq_true_eq] at hoki
    obtain ⟨⟨⟨h2, h3⟩, h4⟩, h5⟩ := hoki
    unfold gx_R1 at h1
    split at h1
    · exact lv_astore_n hx hb h2 h4 hL.1 h5 rfl (fun ls' hl' => go h1 h3 hr hS (gx_lh_set hL rfl hl') hc0 hs0)
    · exact lv_astore_nN hx hb h2 h4 hL.1 h5 rfl (fun ls' hl' => go h1 h3 hr hS (gx_lh_set hL rfl hl') hc0 hs0)
    · exact lv_astore_n hx hb h2 h4 hL.1 h5 rfl (fun ls' hl' => go h1 h3 hr hS (gx_lh_set (v := .retAddr _) hL rfl hl') hc0 hs0)
    · exact h1.elim
  | iinc v n =>
    try dsimp only at h1
    simp only [gx_st, Bool.and_eq_true, decide_eq_true_eq] at hoki
    obtain ⟨⟨⟨⟨h2, h3⟩, h4⟩, h5⟩, h6⟩ := hoki
    subst h4
    unfold gx_li at h1
    split at h1
    · rename_i x hx2
      obtain ⟨kk, hkk⟩ := List.getElem?_of_mem (gx_lv_mem (bs := bs) (bq := bq) (q := (v, .int x)).mpr ⟨.int x, hx2, rfl⟩)
      cases c0 with
      | zero => exact lv_iinc hx hb h2 hL.1 hkk (by rw [of_decide_eq_true h6]) h5 rfl (fun ls' hl' => go h1 h3 hr hS (gx_lh_set hL rfl hl') hc0 hs0)
      | succ c0 => exact lv_iinc (v := x - nI b) hx hb h2 hL.1 hkk (by rw [of_decide_eq_true h6, Int32.sub_eq_add_neg]) h5 rfl (fun ls' hl' => go h1 h3 hr hS (gx_lh_set hL rfl hl') hc0 hs0)
    · exact h1.elim
  | iadd =>
    try dsimp only at h1
    simp only [gx_st, Bool.and_eq_true, decide_eq_true_eq] at hoki
    unfold gx_I2 at h1
    split at h1
    · exact lv_iadd hx hb hoki.1 (go h1 hoki.2 hr hS hL hc0 hs0)
    · exact h1.elim
  | isub =>
    try dsimp only at h1
    simp only [gx_st, Bool.and_eq_true, decide_eq_true_eq] at hoki
    unfold gx_I2 at h1
    split at h1
    · exact lv_isub hx hb hoki.1 (go h1 hoki.2 hr hS hL hc0 hs0)
    · exact h1.elim
  | imul =>
    try dsimp only at h1
    simp only [gx_st, Bool.and_eq_true, decide_eq_true_eq] at hoki
    unfold gx_I2 at h1
    split at h1
    · exact lv_imul hx hb hoki.1 (go h1 hoki.2 hr hS hL hc0 hs0)
    · exact h1.elim
  | ishl =>
    try dsimp only at h1
    simp only [gx_st, Bool.and_eq_true, decide_eq_true_eq] at hoki
    unfold gx_I2 at h1
    split at h1
    · exact lv_ishl hx hb hoki.1 (go h1 hoki.2 hr hS hL hc0 hs0)
    · exact h1.elim
  | ishr =>
    try dsimp only at h1
    simp only [gx_st, Bool.and_eq_true, decide_eq_true_eq] at hoki
    unfold gx_I2 at h1
    split at h1
    · exact lv_ishr hx hb hoki.1 (go h1 hoki.2 hr hS hL hc0 hs0)
    · exact h1.elim
  | iand =>
    try dsimp only at h1
    simp only [gx_st, Bool.and_eq_true, decide_eq_true_eq] at hoki
    unfold gx_I2 at h1
    split at h1
    · exact lv_iand hx hb hoki.1 (go h1 hoki.2 hr hS hL hc0 hs0)
    · exact h1.elim
  | ior =>
    try dsimp only at h1
    simp only [gx_st, Bool.and_eq_true, decide_eq_true_eq] at hoki
    unfold gx_I2 at h1
    split at h1
    · exact lv_ior hx hb hoki.1 (go h1 hoki.2 hr hS hL hc0 hs0)
    · exact h1.elim
  | ixor =>
    try dsimp only at h1
    simp only [gx_st, Bool.and_eq_true, decide_eq_true_eq] at hoki
    unfold gx_I2 at h1
    split at h1
    · exact lv_ixor hx hb hoki.1 (go h1 hoki.2 hr hS hL hc0 hs0)
    · exact h1.elim
  | idiv =>
    try dsimp only at h1
    simp only [gx_st, Bool.and_eq_true, decide_eq_true_eq] at hoki
    unfold gx_I2 at h1
    split at h1
    · exact lv_idiv hx hb hoki.1 h1.1 (go h1.2 hoki.2 hr hS hL hc0 hs0)
    · exact h1.elim
  | irem =>
    try dsimp only at h1
    simp only [gx_st, Bool.and_eq_true, decide_eq_true_eq] at hoki
    unfold gx_I2 at h1
    split at h1
    · exact lv_irem hx hb hoki.1 h1.1 (go h1.2 hoki.2 hr hS hL hc0 hs0)
    · exact h1.elim
  | ineg =>
    try dsimp only at h1
    simp only [gx_st, Bool.and_eq_true, decide_eq_true_eq] at hoki
    unfold gx_I1 at h1
    split at h1
    · exact lv_ineg hx hb hoki.1 (go h1 hoki.2 hr hS hL hc0 hs0)
    · exact h1.elim
  | i2b =>
    try dsimp only at h1
    simp only [gx_st, Bool.and_eq_true, decide_eq_true_eq] at hoki
    unfold gx_I1 at h1
    split at h1
    · exact lv_i2b hx hb hoki.1 rfl (go h1 hoki.2 hr hS hL hc0 hs0)
    · exact h1.elim
  | i2l =>
    try dsimp only at h1
    simp only [gx_st, Bool.and_eq_true, decide_eq_true_eq] at hoki
    unfold gx_I1 at h1
    split at h1
    · exact lv_i2l hx hb hoki.1 rfl (go h1 hoki.2 hr hS hL hc0 hs0)
    · exact h1.elim
  | dup =>
    try dsimp only at h1
    simp only [gx_st, Bool.and_eq_true, decide_eq_true_eq] at hoki
    split at h1
    · exact lv_dup hx hb hoki.1 rfl (go h1 hoki.2 hr hS hL hc0 hs0)
    · exact lv_dup hx hb hoki.1 rfl (go h1 hoki.2 hr hS hL hc0 hs0)
    · exact h1.elim
  | dup2 =>
    try dsimp only at h1
    simp only [gx_st, Bool.and_eq_true, decide_eq_true_eq] at hoki
    split at h1
    · exact lv_dup2_11 hx hb hoki.1 rfl rfl (go h1 hoki.2 hr hS hL hc0 hs0)
    · exact h1.elim
  | goto off =>
    try dsimp only at h1
    simp only [gx_st, gx_jp, Bool.and_eq_true, decide_eq_true_eq] at hoki
    exact lv_goto hx hb hoki.1 hoki.2 (go h1 rfl hr hS hL hc0 hs0)
  | if_icmp cnd off =>
    try dsimp only at h1
    simp only [gx_st, gx_jp, Bool.and_eq_true, decide_eq_true_eq] at hoki
    obtain ⟨⟨h2, h3⟩, h4⟩ := hoki
    unfold gx_I2 at h1
    split at h1
    · cases cnd with
      | eq => exact lv_icmp_eq hx hb h2 h4 (fun z => go (h1.1 z) rfl hr hS hL hc0 hs0) (fun z => go (h1.2 z) h3 hr hS hL hc0 hs0)
      | ne => exact lv_icmp_ne hx hb h2 h4 (fun z => go (h1.1 z) rfl hr hS hL hc0 hs0) (fun z => go (h1.2 z) h3 hr hS hL hc0 hs0)
      | lt => exact lv_icmp_lt hx hb h2 h4 (fun z => go (h1.1 z) rfl hr hS hL hc0 hs0) (fun z => go (h1.2 z) h3 hr hS hL hc0 hs0)
      | ge => exact lv_icmp_ge hx hb h2 h4 (fun z => go (h1.1 z) rfl hr hS hL hc0 hs0) (fun z => go (h1.2 z) h3 hr hS hL hc0 hs0)
      | gt => exact lv_icmp_gt hx hb h2 h4 (fun z => go (h1.1 z) rfl hr hS hL hc0 hs0) (fun z => go (h1.2 z) h3 hr hS hL hc0 hs0)
      | le => exact lv_icmp_le hx hb h2 h4 (fun z => go (h1.1 z) rfl hr hS hL hc0 hs0) (fun z => go (h1.2 z) h3 hr hS hL hc0 hs0)
    · exact h1.elim
  | ifCond cnd off =>
    try dsimp only at h1
    simp only [gx_st, gx_jp, Bool.and_eq_true, decide_eq_true_eq] at hoki
    obtain ⟨⟨h2, h3⟩, h4⟩ := hoki
    unfold gx_I1 at h1
    split at h1
    · cases cnd with
      | eq => exact lv_if_eq hx hb h2 h4 (fun z => go (h1.1 z) rfl hr hS hL hc0 hs0) (fun z => go (h1.2 z) h3 hr hS hL hc0 hs0)
      | ne => exact lv_if_ne hx hb h2 h4 (fun z => go (h1.1 z) rfl hr hS hL hc0 hs0) (fun z => go (h1.2 z) h3 hr hS hL hc0 hs0)
      | lt => exact lv_if_lt hx hb h2 h4 (fun z => go (h1.1 z) rfl hr hS hL hc0 hs0) (fun z => go (h1.2 z) h3 hr hS hL hc0 hs0)
      | ge => exact lv_if_ge hx hb h2 h4 (fun z => go (h1.1 z) rfl hr hS hL hc0 hs0) (fun z => go (h1.2 z) h3 hr hS hL hc0 hs0)
      | gt => exact lv_if_gt hx hb h2 h4 (fun z => go (h1.1 z) rfl hr hS hL hc0 hs0) (fun z => go (h1.2 z) h3 hr hS hL hc0 hs0)
      | le => exact lv_if_le hx hb h2 h4 (fun z => go (h1.1 z) rfl hr hS hL hc0 hs0) (fun z => go (h1.2 z) h3 hr hS hL hc0 hs0)
    · exact h1.elim
  | ifnull off =>
    try dsimp only at h1
    simp only [gx_st, gx_jp, Bool.and_eq_true, decide_eq_true_eq] at hoki
    obtain ⟨⟨h2, h3⟩, h4⟩ := hoki
    split at h1
    · exact lv_ifnull hx hb h2 (go h1 h3 hr hS hL hc0 hs0)
    · exact lv_ifnullN hx hb h2 h4 (go h1 rfl hr hS hL hc0 hs0)
    · exact h1.elim
  | ifnonnull off =>
    try dsimp only at h1
    simp only [gx_st, gx_jp, Bool.and_eq_true, decide_eq_true_eq] at hoki
    obtain ⟨⟨h2, h3⟩, h4⟩ := hoki
    split at h1
    · exact lv_ifnonnull hx hb h2 h4 (go h1 rfl hr hS hL hc0 hs0)
    · exact lv_ifnonnullN hx hb h2 (go h1 h3 hr hS hL hc0 hs0)
    · exact h1.elim
  | tableswitch df lo hi offs =>
    try dsimp only at h1
    simp only [gx_jp, Bool.and_eq_true, decide_eq_true_eq] at hoki
    obtain ⟨⟨⟨⟨⟨h2, h3⟩, h4⟩, h5⟩, h6⟩, h7⟩ := hoki
    unfold gx_I1 at h1
    split at h1
    · rename_i x r
      by_cases hout : x.toInt < lo ∨ hi < x.toInt
      · refine lv_tableOut hx hb h2 hout h3 (go (h1.1 fun j hj e1 => ?_) rfl hr hS hL hc0 hs0)
        rw [e1, nI_toInt (by omega)] at hout
        omega
      · have hlo : ¬ x.toInt < lo := fun z => hout (Or.inl z)
        have hhi : ¬ hi < x.toInt := fun z => hout (Or.inr z)
        obtain ⟨j, hj⟩ : ∃ j : Nat, x.toInt - lo = (j : Int) := ⟨(x.toInt - lo).toNat, by omega⟩
        have hjl : j < ts.length := by omega
        obtain ⟨o, t, e1, e2, e3⟩ := gx_of_at h6 hjl
        have hxe : x = nI (b + j) := gx_nIx (by omega) (by omega)
        exact lv_tableIn hx hb h2 hlo hhi (by rw [hj]; exact e1) e3 (go (show k t L r h cb sb from gx_sw_at (k := fun t => k t L r h cb sb) h1.2 e2 hxe) rfl hr hS hL hc0 hs0)
    · exact h1.elim
  | lookupswitch df ps =>
    try dsimp only at h1
    simp only [gx_jp, Bool.and_eq_true, decide_eq_true_eq] at hoki
    obtain ⟨⟨⟨⟨⟨h2, h3⟩, h4⟩, h5⟩, h7⟩, h8⟩ := hoki
    unfold gx_I1 at h1
    split at h1
    · rename_i x r
      rcases gx_lko x.toInt df ps.toList with ⟨j, o, e1, e2, e3⟩ | ⟨e1, e2⟩
      · have hjl : j < ts.length := by
          have := (List.getElem?_eq_some_iff.mp e1).1
          rw [Array.length_toList] at this
          omega
        obtain ⟨o', t, f1, f2, f3, f4⟩ := gx_lk_at h5 hjl
        rw [Array.getElem?_toList] at e1
        cases e1.symm.trans f1
        exact lv_lookup hx hb h2 h8 e3 f4 (go (show k t L r h cb sb from gx_sw_at (k := fun t => k t L r h cb sb) h1.2 f2 (gx_nIx (by rw [← e2, f3]) (by omega))) rfl hr hS hL hc0 hs0)
      · refine lv_lookup hx hb h2 h8 e2 h3 (go (h1.1 fun j hj e3 => ?_) rfl hr hS hL hc0 hs0)
        obtain ⟨o', t, f1, f2, f3, f4⟩ := gx_lk_at h5 hj
        refine e1 o' (List.mem_of_getElem? (by rw [Array.getElem?_toList]; exact f1)) ?_
        rw [f3, e3, nI_toInt (by omega)]
    · exact h1.elim
  | getfield ix =>
    try dsimp only at h1
    simp only [gx_st, gx_fld, Bool.and_eq_true, decide_eq_true_eq] at hoki
    obtain ⟨⟨h2, h3⟩, h4⟩ := hoki
    split at h4
    case h_2 => cases h4
    rename_i C T N hcl
    simp only [Bool.and_eq_true, decide_eq_true_eq] at h4
    obtain ⟨⟨h5, h6⟩, h7⟩ := h4
    split at h1
    · rename_i q r
      unfold gx_ob at h1
      split at h1
      case h_2 => exact h1.elim
      rename_i c1 fs hq
      split at h1
      case h_2 => exact h1.elim
      rename_i hceq
      obtain rfl := Nat.eq_of_beq_eq_true hceq
      unfold gx_fd at h1
      split at h1
      case h_2 => exact h1.elim
      rename_i v hv
      exact va_get (D := D) (ci := c1) (v := gx_tr bs bq v) (C := C) (T := T) (N := N) hx hb hts (gx_inw _ _ _ _ hcl) hown hK hr.1 q (gx_ws_get hq) hcl b h5 (hts _ (gx_wd_in h6)) (fun _ h9 => h9) (by rw [List.getElem?_map, hv]; rfl) h2 (go h1 h3 hr hS hL hc0 hs0)
    · exact h1.elim
  | putfield ix =>
    try dsimp only at h1
    simp only [gx_st, gx_fld, Bool.and_eq_true, decide_eq_true_eq] at hoki
    obtain ⟨⟨h2, h3⟩, h4⟩ := hoki
    split at h4
    case h_2 => cases h4
    rename_i C T N hcl
    simp only [Bool.and_eq_true, decide_eq_true_eq] at h4
    obtain ⟨⟨h5, h6⟩, h7⟩ := h4
    unfold gx_pf at h7
    rw [Bool.and_eq_true] at h7
    obtain ⟨h7, h8⟩ := h7
    have hfin : (T b).2.2.2 = false ∨ ((T b).2.2.2 = true ∧ meth.name = "<init>" ∧ (T b).1 = own) := by
      split at h8
      · rename_i hf
        rw [Bool.and_eq_true] at h8
        exact Or.inr ⟨hf, (hmn (of_decide_eq_true h8.2)).trans (of_decide_eq_true h8.2), of_decide_eq_true h8.1⟩
      · rename_i hf
        exact Or.inl hf
    split at h1
    · rename_i v q r
      unfold gx_ob at h1
      split at h1
      case h_2 => exact h1.elim
      rename_i c1 fs hq
      split at h1
      case h_2 => exact h1.elim
      rename_i hceq
      obtain rfl := Nat.eq_of_beq_eq_true hceq
      unfold gx_fd at h1
      split at h1
      case h_2 => exact h1.elim
      rename_i v0 hv0
      have hl : b < fs.length := (List.getElem?_eq_some_iff.mp hv0).1
      unfold gx_kd at h1
      split at h1
      · rename_i x
        exact gx_put (v := .int x) hx hb hts hown hK hr hS hq hcl b h5 (hts _ (gx_wd_in h6)) hl (of_decide_eq_true h7) rfl rfl hfin h2 (fun H1 locs1 r1 s1 => go h1 h3 r1 s1 hL hc0 hs0)
      · rename_i w
        unfold gx_tk at h7
        split at h7
        case h_1 => rename_i hz9; cases hz9
        split at h7
        · rename_i nm hd
          exact gx_put (v := .ref w) hx hb hts hown hK hr hS hq hcl b h5 (hts _ (gx_wd_in h6)) hl hd rfl rfl hfin h2 (fun H1 locs1 r1 s1 => go h1 h3 r1 s1 hL hc0 hs0)
        · rename_i nm hd
          exact gx_put (v := .ref w) hx hb hts hown hK hr hS hq hcl b h5 (hts _ (gx_wd_in h6)) hl hd rfl rfl hfin h2 (fun H1 locs1 r1 s1 => go h1 h3 r1 s1 hL hc0 hs0)
        · cases h7
      · exact h1.elim
    · exact h1.elim
  | arraylength =>
    try dsimp only at h1
    simp only [gx_st, Bool.and_eq_true, decide_eq_true_eq] at hoki
    split at h1
    · rename_i q r
      unfold gx_ln at h1
      split at h1
      · rename_i n g hq
        exact va_alen hx hb hK hr.1 q 0 (gx_ws_get hq) rfl rfl hoki.1 (go h1 hoki.2 hr hS hL hc0 hs0)
      · rename_i n g hq
        exact va_alen hx hb hK hr.1 q 1 (gx_ws_get hq) rfl rfl hoki.1 (go h1 hoki.2 hr hS hL hc0 hs0)
      · rename_i n g hq
        exact va_alen hx hb hK hr.1 q 2 (gx_ws_get hq) rfl rfl hoki.1 (go h1 hoki.2 hr hS hL hc0 hs0)
      · exact h1.elim
    · exact va_slen hx hb hX (Nat.lt_of_lt_of_le hbq hbs) (Nat.not_le.mpr hbq) hS hoki.1 (go h1 hoki.2 hr hS hL hc0 hs0)
    · exact h1.elim
  | iaload =>
    try dsimp only at h1
    simp only [gx_st, Bool.and_eq_true, decide_eq_true_eq] at hoki
    split at h1
    · rename_i x q r
      unfold gx_a0 at h1
      split at h1
      case h_2 => exact h1.elim
      rename_i n g hq
      obtain ⟨j, rfl, hj, hn, h1⟩ := h1
      have hcl : (nI j).toNatClampNeg = j := nI_clamp (Nat.lt_trans hj hn)
      refine va_iald hx hb hK hr.1 q 0 (gx_ws_get hq) rfl (vp_in_nI hj hn) hoki.1 ?_
      rw [hcl]
      exact go h1 hoki.2 hr hS hL hc0 hs0
    · rename_i x q r
      obtain ⟨j, rfl, hj, hn, h1⟩ := h1
      have hcl : (nI j).toNatClampNeg = j := nI_clamp (Nat.lt_trans hj hn)
      refine va_sld hx hb hX (Nat.lt_of_lt_of_le hbq hbs) (Nat.not_le.mpr hbq) hS (vp_in_nI hj hn) hoki.1 ?_
      rw [hcl]
      exact go h1 hoki.2 hr hS hL hc0 hs0
    · exact h1.elim
  | baload =>
    try dsimp only at h1
    simp only [gx_st, Bool.and_eq_true, decide_eq_true_eq] at hoki
    split at h1
    · rename_i x q r
      unfold gx_a1 at h1
      split at h1
      case h_2 => exact h1.elim
      rename_i n g hq
      obtain ⟨j, rfl, hj, hn, h1⟩ := h1
      have hcl : (nI j).toNatClampNeg = j := nI_clamp (Nat.lt_trans hj hn)
      refine va_bald hx hb hK hr.1 q 1 (gx_ws_get hq) rfl (vp_in_nI hj hn) hoki.1 ?_
      rw [hcl]
      exact go h1 hoki.2 hr hS hL hc0 hs0
    · exact h1.elim
  | aaload =>
    try dsimp only at h1
    simp only [gx_st, Bool.and_eq_true, decide_eq_true_eq] at hoki
    split at h1
    · rename_i x q r
      unfold gx_a2 at h1
      split at h1
      case h_2 => exact h1.elim
      rename_i n g hq
      obtain ⟨j, rfl, hj, hn, h1⟩ := h1
      have hcl : (nI j).toNatClampNeg = j := nI_clamp (Nat.lt_trans hj hn)
      refine va_aldq hx hb hK hr.1 q 2 (gx_ws_get hq) rfl (vp_in_nI hj hn) hoki.1 ?_
      rw [hcl]
      have e9 : va_rf ((g j).map (fun q => bs + q)) = gx_tr bs bq (va_rf (g j)) := by cases g j <;> rfl
      rw [e9]
      exact go h1 hoki.2 hr hS hL hc0 hs0
    · exact h1.elim
  | iastore =>
    try dsimp only at h1
    simp only [gx_st, Bool.and_eq_true, decide_eq_true_eq] at hoki
    split at h1
    · rename_i v x q r
      unfold gx_a0 at h1
      split at h1
      case h_2 => exact h1.elim
      rename_i n g hq
      obtain ⟨j, rfl, hj, hn, h1⟩ := h1
      exact gx_ias hx hb hK hr hS hq hj hn hoki.1 (fun H1 locs1 r1 s1 => go h1 hoki.2 r1 s1 hL hc0 hs0)
    · exact h1.elim
  | bastore =>
    try dsimp only at h1
    simp only [gx_st, Bool.and_eq_true, decide_eq_true_eq] at hoki
    split at h1
    · rename_i v x q r
      unfold gx_a1 at h1
      split at h1
      case h_2 => exact h1.elim
      rename_i n g hq
      obtain ⟨j, rfl, hj, hn, h1⟩ := h1
      exact gx_bas hx hb hK hr hS hq hj hn hoki.1 (fun H1 locs1 r1 s1 => go h1 hoki.2 r1 s1 hL hc0 hs0)
    · exact h1.elim
  | aastore =>
    try dsimp only at h1
    simp only [gx_st, Bool.and_eq_true, decide_eq_true_eq] at hoki
    split at h1
    · rename_i w x q r
      unfold gx_a2 at h1
      split at h1
      case h_2 => exact h1.elim
      rename_i n g hq
      obtain ⟨j, rfl, hj, hn, ⟨fs, hw⟩, h1⟩ := h1
      exact gx_aas hx hb hK hr hS hq hw hj hn hoki.1 (fun H1 locs1 r1 s1 => go h1 hoki.2 r1 s1 hL hc0 hs0)
    · exact h1.elim
  | newarray at_ =>
    try dsimp only at h1
    simp only [gx_st, Bool.and_eq_true, decide_eq_true_eq] at hoki
    obtain ⟨⟨⟨h2, h3⟩, h4⟩, h5⟩ := hoki
    have ht : (a = 0 ∧ at_ = .int) ∨ (a = 1 ∧ at_ = .byte) := by
      split at h5
      · exact Or.inl ⟨rfl, of_decide_eq_true h5⟩
      · exact Or.inr ⟨rfl, of_decide_eq_true h5⟩
      · cases h5
    unfold gx_I1 at h1
    split at h1
    · rename_i x r
      obtain ⟨n, rfl, hn, hcb, hsb, h1⟩ := h1
      exact gx_newa hx hb (hts _ (gx_wd_in h4)) ht hK hr hS hn (by omega) (by omega) h2 (fun H1 r1 s1 => go h1 h3 r1 s1 hL (by omega) (by omega))
    · exact h1.elim
  | anewarray ix =>
    try dsimp only at h1
    simp only [gx_st, Bool.and_eq_true, decide_eq_true_eq] at hoki
    obtain ⟨⟨h2, h3⟩, h4⟩ := hoki
    unfold gx_I1 at h1
    split at h1
    · rename_i x r
      obtain ⟨n, rfl, hn, hcb, hsb, h1⟩ := h1
      exact gx_newq hx hb hown (hts _ (gx_wd_in h4)) (va_AO.use hAO) hK hr hS hn (by omega) (by omega) h2 (fun H1 r1 s1 => go h1 h3 r1 s1 hL (by omega) (by omega))
    · exact h1.elim
  | new ix =>
    try dsimp only at h1
    simp only [gx_st, Bool.and_eq_true, decide_eq_true_eq] at hoki
    obtain ⟨⟨⟨h2, h3⟩, h4⟩, h5⟩ := hoki
    split at h5
    case h_2 => cases h5
    rename_i C T N hcl
    simp only [Bool.and_eq_true] at h5
    obtain ⟨⟨h6, h7⟩, h8⟩ := h5
    obtain ⟨-, -, -, hN, -⟩ := gx_tys a C T N hcl
    rw [hN] at h1
    obtain ⟨hcb, hsb, h1⟩ := h1
    exact gx_new hx hb hts hown hK hr hS hcl (hts _ (gx_wd_in h6)) (hts _ (gx_wd_in h7)) (hts _ (gx_wd_in h8)) (by omega) (by omega) h2 (fun H1 r1 s1 => go h1 h3 r1 s1 hL (by omega) (by omega))
  | invokevirtual ix =>
    try dsimp only at h1
    simp only [gx_st, Bool.and_eq_true, decide_eq_true_eq] at hoki
    obtain ⟨⟨h2, h3⟩, h4⟩ := hoki
    unfold gx_zk at h4
    split at h4
    case h_2 => cases h4
    rename_i e0 hz
    obtain ⟨y, bcz, nLz, retz, na, kd, cdz, wsz⟩ := e0
    obtain ⟨zc, zi, zh, zp, zL, zn, z0, z1, -⟩ := gx_zfact hz
    simp only [Bool.and_eq_true, decide_eq_true_eq] at h4
    obtain ⟨⟨⟨⟨h5, h6⟩, h7⟩, h8⟩, h9⟩ := h4
    subst h6 h7
    split at h9
    case h_2 => cases h9
    rename_i C T N hcl
    have hCy : C = y.cls := of_decide_eq_true h9
    subst hCy
    obtain ⟨hobj, h1⟩ := h1
    unfold gx_inv at h1
    obtain ⟨hcat, mc, ms, Q', hmc, hms, hcall, hcont⟩ := h1
    have hpre : ∀ U : State, U.heap = H → s.WarmedH U.vm → va_Pc ((st.take b).reverse.map (gx_tr bs bq)) (gx_pre D bs bq cA LL xs h) ((st.take b).reverse.map (gx_tr bs bq)).toArray U := fun U hU hW => ⟨rfl, by rw [hU]; exact hr, va_K.moved hW.alike hK, by
      rw [hU]
      exact va_X.moved hW.alike (hX.kept (hS.2.1 bq (Nat.lt_of_lt_of_le hbq hbs) (Nat.not_le.mpr hbq))), hbq, by rw [hU, hr.2]; exact Nat.le_add_right _ _, va_AO.moved hW.alike hAO, gx_NL_warm hW hNL⟩
    have hcatW : ((st.drop b).map (gx_tr bs bq) |>.map fun v => v.category).sum ≤ 8 := by rw [gx_cat_tr]; exact hcat
    have hM := hIH _ _ _ _ _ _ _ hz hcall
    obtain ⟨hav, hlen⟩ := gx_call_args hz hcall
    have hst : st.map (gx_tr bs bq) = (((st.take b).reverse.map (gx_tr bs bq)).reverse) ++ (st.drop b).map (gx_tr bs bq) := by
      rw [← List.map_reverse, List.reverse_reverse, ← List.map_append, List.take_append_drop]
    obtain ⟨zin, zpos, zlen⟩ := z1 (by decide)
    cases hrev : (st.take b).reverse with
    | nil => rw [hrev] at hobj; exact hobj.elim
    | cons v as =>
      rw [hrev] at hobj hM hpre hlen hst
      cases v with
      | ref q =>
        obtain ⟨fs, hq⟩ := hobj
        rw [hst]
        have hrun := va_runV (p := p) (l := l) (e := e) (R := R) (s := s) (m := m) (args := args) (below := below) (meth := meth) (c := c) (H := H) (locs := locs) (cells := cells) (slots := slots) (b := bs + q) (As := as.map (gx_tr bs bq)) (rest := (st.drop b).map (gx_tr bs bq)) (g := F0 m pc ls (((Value.ref q :: as).map (gx_tr bs bq)).reverse ++ (st.drop b).map (gx_tr bs bq))) (n := b - 1) (C := y.cls) (own := own) (index := ix)
          ⟨hx, hb, hml, hown, hts⟩ hM ⟨⟨rfl, rfl, hRf, by show 8 + (nLz + 11) + 27 * d ≤ R.locals; omega, gx_pay hts zc, List.mem_cons_self, hts _ zc, hts _ zi, zh, zlen, hts _ (gx_wd_in h5)⟩, hts _ zin, hts _ (gx_wd_in h8)⟩
          ⟨gx_blind, va_recv hK hr.1 hcl (gx_ws_get hq), hpre⟩ rfl (by rw [List.length_map]; simp only [List.length_cons] at hlen; omega) hL.1.1 (by simp [gx_tr]) (lv_room hcatW) h2 ⟨by omega, by omega⟩
        refine gx_cal hrun hS (fun r h1 H1 locs1 q1 r1 s1 => ?_)
        have hk1 := hcont r h1 q1
        have := go hk1 h3 r1 s1 hL (cells' := cells + mc) (slots' := slots + ms) (by omega) (by omega)
        rw [List.map_append] at this
        cases r <;> exact this
      | _ => exact hobj.elim
  | invokestatic ix =>
    try dsimp only at h1
    simp only [gx_st, Bool.and_eq_true, decide_eq_true_eq] at hoki
    obtain ⟨⟨h2, h3⟩, h4⟩ := hoki
    unfold gx_zk at h4
    split at h4
    case h_2 => cases h4
    rename_i e0 hz
    obtain ⟨y, bcz, nLz, retz, na, kd, cdz, wsz⟩ := e0
    obtain ⟨zc, zi, zh, zp, zL, zn, z0, z1, -⟩ := gx_zfact hz
    simp only [Bool.and_eq_true, decide_eq_true_eq] at h4
    obtain ⟨⟨h5, h6⟩, h7⟩ := h4
    subst h6
    obtain ⟨zst, zlen⟩ := z0 rfl
    cases c0 with
    | zero =>
      have h7 : b = na := of_decide_eq_true h7
      subst h7
      rw [gx_b_0] at h1
      unfold gx_inv at h1
      obtain ⟨hcat, mc, ms, Q', hmc, hms, hcall, hcont⟩ := h1
      have hpre : ∀ U : State, U.heap = H → s.WarmedH U.vm → va_Pc ((st.take b).reverse.map (gx_tr bs bq)) (gx_pre D bs bq cA LL xs h) ((st.take b).reverse.map (gx_tr bs bq)).toArray U := fun U hU hW => ⟨rfl, by rw [hU]; exact hr, va_K.moved hW.alike hK, by
        rw [hU]
        exact va_X.moved hW.alike (hX.kept (hS.2.1 bq (Nat.lt_of_lt_of_le hbq hbs) (Nat.not_le.mpr hbq))), hbq, by rw [hU, hr.2]; exact Nat.le_add_right _ _, va_AO.moved hW.alike hAO, gx_NL_warm hW hNL⟩
      have hcatW : ((st.drop b).map (gx_tr bs bq) |>.map fun v => v.category).sum ≤ 8 := by rw [gx_cat_tr]; exact hcat
      have hM := hIH _ _ _ _ _ _ _ hz hcall
      obtain ⟨hav, hlen⟩ := gx_call_args hz hcall
      have hst : st.map (gx_tr bs bq) = (((st.take b).reverse.map (gx_tr bs bq)).reverse) ++ (st.drop b).map (gx_tr bs bq) := by
        rw [← List.map_reverse, List.reverse_reverse, ← List.map_append, List.take_append_drop]
      rw [hst]
      have hrun := va_runS (p := p) (l := l) (e := e) (R := R) (s := s) (m := m) (args := args) (below := below) (meth := meth) (c := c) (H := H) (locs := locs) (cells := cells) (slots := slots) (As := (st.take b).reverse.map (gx_tr bs bq)) (rest := (st.drop b).map (gx_tr bs bq)) (g := F0 m pc ls (((st.take b).reverse.map (gx_tr bs bq)).reverse ++ (st.drop b).map (gx_tr bs bq))) (n := b) (own := own) (index := ix)
        ⟨hx, hb, hml, hown, hts⟩ hM ⟨⟨rfl, rfl, hRf, by show 8 + (nLz + 11) + 27 * d ≤ R.locals; omega, gx_pay hts zc, List.mem_cons_self, hts _ zc, hts _ zi, zh, zlen, hts _ (gx_wd_in h5)⟩, hts _ zst⟩
        ⟨gx_blind, hpre⟩ rfl (by rw [List.length_map]; exact hlen) hL.1.1 rfl (lv_room hcatW) h2 ⟨by omega, by omega⟩
      refine gx_cal hrun hS (fun r h1 H1 locs1 q1 r1 s1 => ?_)
      have hk1 := hcont r h1 q1
      have := go hk1 h3 r1 s1 hL (cells' := cells + mc) (slots' := slots + ms) (by omega) (by omega)
      rw [List.map_append] at this
      cases r <;> exact this
    | succ c0 =>
      rw [gx_b_s] at h1
      replace h7 : (decide (a = 80) && decide (y = yX3_in)) = true := h7
      rw [Bool.and_eq_true] at h7
      have ha80 : a = 80 := of_decide_eq_true h7.1
      have hyin : y = yX3_in := of_decide_eq_true h7.2
      subst ha80
      have hzz : gx_mt[80]? = some mt_M_in := rfl
      cases hzz.symm.trans hz
      unfold gx_in at h1
      split at h1
      · rename_i z9 y9 x9 r9
        obtain ⟨hcat, h1⟩ := h1
        have hrun := W.runS (p := p) (l := l) (e := e) (R := R) (s := s) (m := m) (args := args) (below := below) (meth := meth) (c := c) (H := H) (locs := locs) (cells := cells) (slots := slots) (As := [.long x9, .long y9, .long z9]) (rest := r9.map (gx_tr bs bq)) (g := F0 m pc ls (.long z9 :: .long y9 :: .long x9 :: r9.map (gx_tr bs bq))) (n := 3) (own := own) (index := ix)
          ⟨hx, hb, hml, hown, hts⟩ (hmi x9 y9 z9) ⟨⟨rfl, rfl, by show 0 + 1 ≤ R.frames; omega, by show 8 + (6 + 11) + 0 ≤ R.locals; omega, gx_pay hts zc, List.mem_cons_self, hts _ zc, hts _ zi, zh, zlen, hts _ (gx_wd_in h5)⟩, hts _ zst⟩
          ⟨fun a U g mk q => ⟨q.1, trivial⟩, fun U hU hW => ⟨rfl, trivial⟩⟩ rfl rfl hL.1.1 rfl (lv_room (by rw [gx_cat_tr]; exact hcat)) h2 ⟨by omega, by omega⟩
        refine W.callR hrun ?_
        by_cases hc9 : y9 ≤ x9 ∧ x9 ≤ z9
        · rw [if_pos hc9]
          exact go (h1.1 hc9) h3 hr hS hL hc0 hs0
        · rw [if_neg hc9]
          exact go (h1.2 hc9) h3 hr hS hL hc0 hs0
      · exact h1.elim
  | invokespecial ix =>
    try dsimp only at h1
    simp only [gx_st, Bool.and_eq_true, decide_eq_true_eq] at hoki
    obtain ⟨⟨h2, h3⟩, h4⟩ := hoki
    by_cases hc99 : c0 = 99
    · subst hc99
      simp only [Bool.and_eq_true] at h4
      replace h1 : (match (generalizing := false) st with
            | .ref _ :: r => gx_cat r ≤ 8 ∧ k (i + 1) L r h cb sb
            | _ => False) := h1
      split at h1
      · rename_i q r
        refine W.objInit hx hb hown (hts _ (gx_wd_in h4.1.1)) (hts _ (gx_wd_in h4.1.2)) (hts _ (gx_wd_in h4.2)) rfl (by rw [hml]; exact hL.1.1) rfl h2 (by omega) ?_ ?_
        · have := h1.1
          show 2 * 0 + ((r.map (gx_tr bs bq)).map fun v => v.category).sum + 12 ≤ R.locals
          rw [gx_cat_tr]
          omega
        · exact go h1.2 h3 hr hS hL hc0 hs0
      · exact h1.elim
    · have h4 : gx_zk a (fun e => decide (b = e.2.2.2.2.1) && decide (e.2.2.2.2.2.1 = 1) && decide (e.1.name = "<init>") && decide (e.2.2.2.1 = none) && (match vwCl[c0 % 50]? with
            | some (C, _, _) => decide (C = e.1.cls)
            | none => false) && (match decide (c0 < 50) with
            | true => gx_wd ts 0 (.methodLink own ix e.1)
            | false => gx_wn ts 0 (.methodLinkNest own ix e.1 RX2))) = true := by
        split at h4
        · exact absurd rfl hc99
        · exact h4
      have h1 : gx_own h (c0 % 50) (st.take b).reverse ∧ gx_inv (gx_call LL xs d) a (st.take b).reverse (st.drop b) h cb sb fun r h1 cb sb => r = none ∧ k (i + 1) L (st.drop b) h1 cb sb := by
        split at h1
        · exact absurd rfl hc99
        · exact h1
      unfold gx_zk at h4
      split at h4
      case h_2 => cases h4
      rename_i e0 hz
      obtain ⟨y, bcz, nLz, retz, na, kd, cdz, wsz⟩ := e0
      obtain ⟨zc, zi, zh, zp, zL, zn, z0, z1, -⟩ := gx_zfact hz
      simp only [Bool.and_eq_true, decide_eq_true_eq] at h4
      obtain ⟨⟨⟨⟨⟨h6, h7⟩, h8⟩, h10⟩, h9⟩, h5⟩ := h4
      subst h6 h7 h10
      split at h9
      case h_2 => cases h9
      rename_i C T N hcl
      have hCy : C = y.cls := of_decide_eq_true h9
      subst hCy
      obtain ⟨hobj, h1⟩ := h1
      unfold gx_inv at h1
      obtain ⟨hcat, mc, ms, Q', hmc, hms, hcall, hcont⟩ := h1
      have hpre : ∀ U : State, U.heap = H → s.WarmedH U.vm → va_Pc ((st.take b).reverse.map (gx_tr bs bq)) (gx_pre D bs bq cA LL xs h) ((st.take b).reverse.map (gx_tr bs bq)).toArray U := fun U hU hW => ⟨rfl, by rw [hU]; exact hr, va_K.moved hW.alike hK, by
        rw [hU]
        exact va_X.moved hW.alike (hX.kept (hS.2.1 bq (Nat.lt_of_lt_of_le hbq hbs) (Nat.not_le.mpr hbq))), hbq, by rw [hU, hr.2]; exact Nat.le_add_right _ _, va_AO.moved hW.alike hAO, gx_NL_warm hW hNL⟩
      have hcatW : ((st.drop b).map (gx_tr bs bq) |>.map fun v => v.category).sum ≤ 8 := by rw [gx_cat_tr]; exact hcat
      have hM := hIH _ _ _ _ _ _ _ hz hcall
      obtain ⟨hav, hlen⟩ := gx_call_args hz hcall
      have hst : st.map (gx_tr bs bq) = (((st.take b).reverse.map (gx_tr bs bq)).reverse) ++ (st.drop b).map (gx_tr bs bq) := by
        rw [← List.map_reverse, List.reverse_reverse, ← List.map_append, List.take_append_drop]
      obtain ⟨zin, zpos, zlen⟩ := z1 (by decide)
      cases hrev : (st.take b).reverse with
      | nil => rw [hrev] at hobj; exact hobj.elim
      | cons v as =>
        rw [hrev] at hobj hM hpre hlen hst
        cases v with
        | ref q =>
          obtain ⟨fs, hq⟩ := hobj
          rw [hst]
          have hrun : va_Run p l e R s m args below meth c H locs cells slots mc ms (F0 m pc ls (((Value.ref q :: as).map (gx_tr bs bq)).reverse ++ (st.drop b).map (gx_tr bs bq))) ((st.drop b).map (gx_tr bs bq)) (gx_pst D bs bq cA Q' (Value.ref (bs + q) :: as.map (gx_tr bs bq)).toArray) (fun q => bs ≤ q) := by
            split at h5
            · exact va_runI (b := bs + q) (As := as.map (gx_tr bs bq)) (n := b - 1) (own := own) (index := ix)
                ⟨hx, hb, hml, hown, hts⟩ hM ⟨⟨rfl, rfl, hRf, by show 8 + (nLz + 11) + 27 * d ≤ R.locals; omega, gx_pay hts zc, List.mem_cons_self, hts _ zc, hts _ zi, zh, zlen, hts _ (gx_wd_in h5)⟩, h8, hts _ zin⟩
                ⟨gx_blind, hpre⟩ rfl (by rw [List.length_map]; simp only [List.length_cons] at hlen; omega) hL.1.1 (by simp [gx_tr]) (lv_room hcatW) h2 ⟨by omega, by omega⟩
            · exact va_runIN (b := bs + q) (As := as.map (gx_tr bs bq)) (n := b - 1) (own := own) (index := ix) (host := RX2)
                ⟨hx, hb, hml, hown, hts⟩ hM ⟨⟨⟨rfl, rfl, hRf, by show 8 + (nLz + 11) + 27 * d ≤ R.locals; omega, gx_pay hts zc, List.mem_cons_self⟩, hts _ zc, hts _ zi, zh, zlen, va_Nw.use rfl (hNL _ (gx_wn_in h5))⟩, h8, hts _ zin⟩
                ⟨gx_blind, hpre⟩ rfl (by rw [List.length_map]; simp only [List.length_cons] at hlen; omega) hL.1.1 (by simp [gx_tr]) (lv_room hcatW) h2 ⟨by omega, by omega⟩
          refine gx_cal hrun hS (fun r h1 H1 locs1 q1 r1 s1 => ?_)
          obtain ⟨er, hk1⟩ := hcont r h1 q1
          subst er
          exact go hk1 h3 r1 s1 hL (cells' := cells + mc) (slots' := slots + ms) (by omega) (by omega)
        | _ => exact hobj.elim
  | ireturn =>
    try dsimp only at h1
    simp only [Bool.and_eq_true, decide_eq_true_eq] at hoki
    split at h1
    · rename_i x
      have hrt : gx_rt bc ret pc (some (.int x)) ∧ Q (some (.int x)) h := by
        cases b with
        | zero => exact ⟨Or.inl ⟨x, rfl, hoki.1, Or.inl (of_decide_eq_true hoki.2)⟩, h1⟩
        | succ b => exact ⟨Or.inl ⟨x, rfl, hoki.1, Or.inr ⟨of_decide_eq_true hoki.2, h1.1⟩⟩, h1.2⟩
      exact hret (some (.int x)) h H locs cells slots pc ls hrt.2 hr hS (by omega) (by omega) hrt.1
    · exact h1.elim
  | areturn =>
    try dsimp only at h1
    simp only [Bool.and_eq_true, decide_eq_true_eq] at hoki
    have hrt : ∃ rt, ret = some rt ∧ ((∃ n, rt = .object n) ∨ ∃ t, rt = .array t) := by
      have h9 := hoki.2
      split at h9
      · exact ⟨_, rfl, Or.inl ⟨_, rfl⟩⟩
      · exact ⟨_, rfl, Or.inr ⟨_, rfl⟩⟩
      · cases h9
    split at h1
    · rename_i q
      exact hret (some (.ref q)) h H locs cells slots pc ls h1 hr hS (by omega) (by omega) (Or.inr (Or.inr ⟨.ref q, rfl, Or.inr ⟨q, rfl⟩, hoki.1, hrt⟩))
    · exact hret (some .null) h H locs cells slots pc ls h1 hr hS (by omega) (by omega) (Or.inr (Or.inr ⟨.null, rfl, Or.inl rfl, hoki.1, hrt⟩))
    · exact h1.elim
  | return_ =>
    try dsimp only at h1
    simp only [Bool.and_eq_true, decide_eq_true_eq] at hoki
    split at h1
    · exact hret none h H locs cells slots pc ls h1 hr hS (by omega) (by omega) (Or.inr (Or.inl ⟨rfl, hoki.1, hoki.2⟩))
    · exact h1.elim
  | _ => exact h1.elim
end GXB
