/-! From the law's code over our machine to the walk of the law's body. -/
def R_law : String := "GlulxFramesLaw"
def lw_P (b : Addr) (xs : List Int32) (args : Array Value) (s : State) : Prop := args = #[.ref b] ∧ s.IntsAt b xs ∧ xs.length ≤ 3073 ∧ (Jvm.Cond.and given_1 narrow_1).before args s = true
def lw_Q (_ : Array Value) (s : State) (o : Outcome) (t : State) : Prop := o = .returned (some (.int 1)) ∧ Framed s o t [] 600000 7302250
def lw_Z (below : List Frame) (a : Array Value) (s : State) : State → Prop := fun t => ∃ o, t.status = .running ∧ Ended t below o ∧ lw_Q a s o t
/-- the law's own end, with 1 on the stack, nothing written that was there before, its room as the claim has it -/
theorem lw_ret {p : Program} {l : Launch} {e : Env} {s : State} {m : MethodId} {below : List Frame} {meth : Method} {c : Code} {b : Nat} (hx : p.tables.exec = Jvm.exec) (hb : c.code = code) (hr : meth.sig.returnType = ret) (hlocks : meth.locks = false) {pc : Nat} {H : Heap} {ls : Array Slot} (hdg : decode code pc = .ok (.ireturn, 1)) : W p l e room_1 s m #[Value.ref b] below meth c H [] 600000 7302250 (lw_Z below #[Value.ref b] s) (F0 m pc ls [.int 1]) := by
  intro T hT X
  obtain ⟨fs, hret, hrun, hended, hW, hframe⟩ := X.leave (v := some (.int 1)) (hlocks := hlocks) (fun h => by rw [hr] at h; cases h)
  have hmeth' : T.vm.method? m = some meth := X.method'
  refine ⟨T.setFrames fs, ?_, .returned (some (.int 1)), hrun, hended, rfl, ⟨_, rfl⟩, hW, hframe⟩
  jvm_step X.here [X.here.top, hx, hb, hdg, hmeth', hr, ret, narrow_b1]
  (try refine ⟨rfl, ?_⟩); (try refine ⟨rfl, ?_⟩)
  first | (intro acts; rw [hret _ acts rfl rfl rfl]) | rw [hret _ _ rfl rfl rfl]
  exact Steps.refl _
/-- what holds at the law's entry: the machine, the code, the tables' words (any of lw_tbl by 'hts w (by decide +kernel)'), the script of L ints xs at the cell b, what the Statement gives of the start (any of its parts by flat_of_before) -/
def lw_At (p : Program) (s : State) (m : MethodId) (meth : Method) (c : Code) (b L : Nat) (xs : Nat → Int32) : Prop :=
  p.tables.exec = Jvm.exec ∧ c.code = code ∧ meth.sig.returnType = ret ∧ c.maxLocals = 4 ∧ s.vm.findClass R_law = some m.cls ∧ (∀ w ∈ lw_tbl, w.before #[Value.ref b] s = true) ∧ va_X b L xs s s.heap ∧ b < s.heap.size ∧ meth.locks = false ∧ (Jvm.Cond.and given_1 narrow_1).before #[Value.ref b] s = true
set_option maxRecDepth 100000 in
theorem whole_open (hlaw : ∀ (LL : Nat) (xs : Nat → Int32), LL ≤ 3073 → gx_E LL xs (gx_call LL xs 8) cd_L_law (fun r _ => r = some (.int (nI 1))) 0 [some (.retAddr 0), none, none, none] [] [] 600000 7302250)
    {p : Program} {e : Env} {s : State} {m : MethodId} {below : List Frame} {meth : Method} {c : Code} (l : Launch) {b L : Nat} {xs : Nat → Int32} (hL : L ≤ 3073) (C0 : lw_At p s m meth c b L xs) : W p l e room_1 s m #[Value.ref b] below meth c s.heap [] 0 0 (lw_Z below #[Value.ref b] s) (entryFrame m ([Value.ref b] : List Value).toArray 4) := by
  obtain ⟨hx, hb, hr, hml, hown, hts0, hX, hbl, hlocks, hgv⟩ := id C0
  have hts : ∀ w ∈ gx_tb, w.before #[Value.ref b] s = true := fun w hw => hts0 w (List.mem_filter.mp hw).1
  obtain ⟨c0, iS0, hKn0⟩ := u_known (C := RX0) (T := TX0) (N := 5) (n := 5) hts (gx_inw 0 _ _ _ rfl) (hts _ (by decide +kernel : Jvm.Cond.instantiable RX0 5 ∈ gx_tb))
  obtain ⟨c1, iS1, hKn1⟩ := u_known (C := RX1) (T := TX1) (N := 2) (n := 2) hts (gx_inw 1 _ _ _ rfl) (hts _ (by decide +kernel : Jvm.Cond.instantiable RX1 2 ∈ gx_tb))
  obtain ⟨c2, iS2, hKn2⟩ := u_known (C := RX2) (T := TX2) (N := 9) (n := 9) hts (gx_inw 2 _ _ _ rfl) (hts _ (by decide +kernel : Jvm.Cond.instantiable RX2 9 ∈ gx_tb))
  obtain ⟨c3, iS3, hKn3⟩ := u_known (C := RX3) (T := TX3) (N := 15) (n := 15) hts (gx_inw 3 _ _ _ rfl) (hts _ (by decide +kernel : Jvm.Cond.instantiable RX3 15 ∈ gx_tb))
  obtain ⟨a0, k0, p0, f0, g0, e0⟩ := Cond.arrayClass_spec (hts _ (by decide +kernel : Jvm.Cond.arrayClass .int ∈ gx_tb))
  obtain ⟨a1, k1, p1, f1, g1, e1⟩ := Cond.arrayClass_spec (hts _ (by decide +kernel : Jvm.Cond.arrayClass .byte ∈ gx_tb))
  have hAO0 : (Jvm.Cond.arrayOver (.object RX0)).before #[Value.ref b] s = true := hts0 _ (by decide +kernel)
  obtain ⟨p2, a2, k2, f2, i2, g2, e2, n2⟩ := Cond.arrayOver_spec hAO0
  obtain ⟨dC, dI, hKc⟩ : ∃ (dC : Nat → ClassId) (dI : Nat → Nat → Nat), ∀ (k : Nat) (q : vw_C), vwCl[k]? = some q → u_Kn s q.1 q.2.1 q.2.2 (dC k) (dI k) := by
    refine ⟨fun k => if k = 0 then c0 else if k = 1 then c1 else if k = 2 then c2 else c3, fun k => if k = 0 then iS0 else if k = 1 then iS1 else if k = 2 then iS2 else iS3, ?_⟩
    intro k q hq
    match k, hq with
    | 0, hq => cases hq; exact hKn0
    | 1, hq => cases hq; exact hKn1
    | 2, hq => cases hq; exact hKn2
    | 3, hq => cases hq; exact hKn3
    | k + 4, hq => simp [vwCl] at hq
  obtain ⟨cA, ec0, ec1, ec2⟩ : ∃ cA : Nat → ClassId, cA 0 = a0 ∧ cA 1 = a1 ∧ cA 2 = a2 := ⟨fun k => if k = 0 then a0 else if k = 1 then a1 else a2, rfl, rfl, rfl⟩
  have hK : va_K (dC, dI) vwCl (gx_ty cA) s := by
    refine ⟨hKc, fun k q h => ?_⟩
    match k, h with
    | 0, h => cases h; rw [ec0]; exact ⟨fun n z => ⟨fun k h => (by cases h), k0, g0, p0, e0⟩, f0⟩
    | 1, h => cases h; rw [ec1]; exact ⟨fun n z => ⟨fun k h => (by cases h), k1, g1, p1, e1⟩, f1⟩
    | 2, h => cases h; rw [ec2]; exact ⟨fun n z => ⟨fun k h => (by cases h), k2, g2, p2, e2⟩, k2, p2, g2, e2, f2, n2⟩
    | k + 3, h => simp [gx_ty] at h
  have hr0 : gx_hr (dC, dI) s.heap.size b cA [] s.heap := ⟨fun k q h => by simp [gx_ws] at h, rfl⟩
  have hLh : gx_lh s.heap.size b 4 ((lg_sl (([.retAddr 0] : List Value).map (gx_tr s.heap.size b)) ++ List.replicate (4 - (lg_sl (([.retAddr 0] : List Value).map (gx_tr s.heap.size b))).length) Slot.unset).toArray) (gx_l0 [.retAddr 0] 4) := gx_entry (fun v hv => by rcases List.mem_singleton.mp hv with rfl; rfl) (by decide)
  have hNL0 : gx_NL s := by
    intro w hw
    have h2 := (List.mem_filter.mp hw).2
    have h1 := hts0 w (List.mem_filter.mp hw).1
    unfold gx_isn at h2
    split at h2
    · exact va_Nw.of rfl h1
    · cases h2
  rw [lg_entry_eq]
  have hpc0 : gx_pc cd_L_law 0 = 0 := by decide +kernel
  have := gx_body (p := p) (l := l) (e := e) (R := room_1) (s := s) (m := m) (args := #[Value.ref b]) (below := below) (meth := meth) (c := c) (F := lw_Z below #[Value.ref b] s) (D := (dC, dI)) (bs := s.heap.size) (bq := b) (cA := cA) (LL := L) (xs := xs) (d := 8) (own := RL) (mn := "law") (bc := code) (ret := some .boolean) (nL := 4) (cd := cd_L_law) (MC := 600000) (MS := 7302250)
    hx hb hml hown hts (fun h => absurd h (by decide)) ⟨hK, hX, hbl, Nat.le_refl _, va_AO.of hAO0, hNL0⟩ zl_all (Nat.le_of_ble_eq_true rfl) (Nat.le_of_ble_eq_true rfl) rfl rfl (gx_in_ok l) (gx_sound 8) ?_ (hlaw L xs hL) s.heap [] _ 0 0 hr0 va_S.rf hLh (Nat.zero_add _) (Nat.zero_add _)
  · rw [hpc0] at this
    exact this
  · intro v h1 H locs cells slots pc ls hq hr1 hS hc hs hrt1
    subst hq
    refine W.widen hc hs ?_
    refine va_forget hS.2.2 ?_
    rcases hrt1 with ⟨x, hxe, hdg, hty⟩ | ⟨h9, -⟩ | ⟨w, h9, hw, -⟩
    · cases hxe
      exact lw_ret hx hb hr hlocks hdg
    · cases h9
    · cases h9
      rcases hw with h9 | ⟨a, h9⟩ <;> cases h9
