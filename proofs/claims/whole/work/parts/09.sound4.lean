set_option maxRecDepth 100000 in
theorem gx_in_ok (l : Launch) : gx_met_in l := by
  intro x y z
  refine Met.ofW (cc := cX3_in) (maxL := 6) (ret := some .boolean) (by decide) rfl ?_
  intro p e s m args below meth c s₁ B hml hv
  obtain ⟨rfl, -⟩ := hv
  have hx := B.exec
  have hb := B.bytes
  have hr := B.returns
  have hlocks := B.notSynchronized
  have hl := lv_entry ([.long x, .long y, .long z]) (n := 6) (Nat.le_of_ble_eq_true rfl)
  rw [lg_entry_eq]
  generalize (lg_sl ([.long x, .long y, .long z]) ++ List.replicate (6 - (lg_sl ([.long x, .long y, .long z])).length) Slot.unset).toArray = ls at hl ⊢
  have hl : lv_has ls 6 [(0, .long x), (2, .long y), (4, .long z)] := hl
  have d0 : decode cX3_in 0 = .ok (.lload_n 0, 1) := by decide +kernel
  have d1 : decode cX3_in 1 = .ok (.lload_n 2, 1) := by decide +kernel
  have d2 : decode cX3_in 2 = .ok (.lcmp, 1) := by decide +kernel
  have d3 : decode cX3_in 3 = .ok (.ifCond .lt 14, 3) := by decide +kernel
  have d6 : decode cX3_in 6 = .ok (.lload_n 0, 1) := by decide +kernel
  have d7 : decode cX3_in 7 = .ok (.lload 4, 2) := by decide +kernel
  have d9 : decode cX3_in 9 = .ok (.lcmp, 1) := by decide +kernel
  have d10 : decode cX3_in 10 = .ok (.ifCond .gt 7, 3) := by decide +kernel
  have d13 : decode cX3_in 13 = .ok (.iconst 1, 1) := by decide +kernel
  have d14 : decode cX3_in 14 = .ok (.goto 4, 3) := by decide +kernel
  have d17 : decode cX3_in 17 = .ok (.iconst 0, 1) := by decide +kernel
  have d18 : decode cX3_in 18 = .ok (.ireturn, 1) := by decide +kernel
  have fin : ∀ r : Int32, narrow .boolean (.int r) = .int r → (if y ≤ x ∧ x ≤ z then nI 1 else nI 0) = r → W p l e (headSpec (gx_wy yX3_in cX3_in 6 (some .boolean)) rm0).room s m #[.long x, .long y, .long z] below meth c s.heap [] 0 0 (MQ below (QcRead (if y ≤ x ∧ x ≤ z then nI 1 else nI 0)) #[.long x, .long y, .long z] s 0 0 fun _ => False) (F0 m 18 ls [.int r]) := by
    intro r hn he
    exact W.zret hx hb hr hn (fun t ht hW => ⟨by rw [he], ht⟩) (fun q hq => absurd hq List.not_mem_nil) d18
  refine lv_lload_n hx hb d0 rfl (lv_at hl 0 rfl) ?_
  refine lv_lload_n hx hb d1 rfl (lv_at hl 1 rfl) ?_
  refine W.lcmp hx hb d2 ?_
  refine lv_if_lt (tgt := 17) hx hb d3 (by decide) (fun c1 => ?_) (fun c1 => ?_)
  · refine lv_iconst (v := nI 0) hx hb d17 (by decide) ?_
    rw [lg_cmp_lt] at c1
    exact fin _ (by decide) (if_neg fun h => Int64.not_le.mpr c1 h.1)
  · rw [lg_cmp_lt] at c1
    refine lv_lload_n hx hb d6 rfl (lv_at hl 0 rfl) ?_
    refine lv_lload hx hb d7 (lv_at hl 2 rfl) ?_
    refine W.lcmp hx hb d9 ?_
    refine lv_if_gt (tgt := 17) hx hb d10 (by decide) (fun c2 => ?_) (fun c2 => ?_)
    · refine lv_iconst (v := nI 0) hx hb d17 (by decide) ?_
      rw [lg_cmp_gt] at c2
      exact fin _ (by decide) (if_neg fun h => Int64.not_le.mpr c2 h.2)
    · rw [lg_cmp_gt] at c2
      refine lv_iconst (v := nI 1) hx hb d13 (by decide) ?_
      refine lv_goto (tgt := 18) hx hb d14 (by decide) ?_
      exact fin _ (by decide) (if_pos ⟨Int64.not_lt.mp c1, Int64.not_lt.mp c2⟩)
theorem gx_pc0 : ∀ e ∈ gx_mt, gx_pc e.2.2.2.2.2.2.1 0 = 0 := by
  have h : (gx_mt.all fun e => decide (gx_pc e.2.2.2.2.2.2.1 0 = 0)) = true := by decide +kernel
  intro e he
  exact of_decide_eq_true (List.all_eq_true.mp h e he)
theorem gx_sound {l : Launch} {D : va_G} {bs bq : Nat} {cA : Nat → ClassId} {LL : Nat} {xs : Nat → Int32} : ∀ (d z mc ms : Nat) (av : List Value) (h : gx_H) (Q : gx_Q) (e0 : gx_M), gx_mt[z]? = some e0 → gx_call LL xs d z mc ms av h Q → gx_met l D bs bq cA LL xs d e0 mc ms av h Q := by
  intro d
  induction d with
  | zero => intro z mc ms av h Q e0 hz h1; exact h1.elim
  | succ d ih =>
    intro z mc ms av h Q e0 hz h1
    obtain ⟨hav, hlen⟩ := gx_call_args hz h1
    obtain ⟨y, bc, nL, ret, na, kd, cd, ws⟩ := e0
    obtain ⟨zc, zi, zh, zp, zL, zn, z0, z1, zok⟩ := gx_zfact hz
    have hp0 : gx_pc cd 0 = 0 := gx_pc0 _ (List.mem_of_getElem? hz)
    unfold gx_call at h1
    rw [hz] at h1
    have hE := h1.2.2
    unfold gx_met
    refine va_MetF (cc := bc) (maxL := nL) (ret := ret) zp rfl ?_
    intro p e s m args below meth c s₁ B hml hv
    obtain ⟨rfl, hr, hcx⟩ := hv
    have hx := B.exec
    have hb := B.bytes
    have hrt := B.returns
    have hts0 := atoms_spec (ws := gx_wy y bc nL ret) B.pre
    have hts : ∀ w ∈ gx_tb, w.before (av.map (gx_tr bs bq)).toArray s = true := fun w hw => hts0 w (List.mem_cons_of_mem _ hw)
    have hown : s.vm.findClass y.cls = some m.cls := findClass_of_methodNamed B.named
    have hlocks := B.notSynchronized
    have hmn : meth.name = y.name := (name_of_methodNamed B.named B.method).1
    rw [lg_entry_eq]
    have hL := gx_entry (bs := bs) (bq := bq) (nL := nL) hav (by rw [hlen]; exact zn)
    have := gx_body (p := p) (e := e) (R := (headSpec (gx_wy y bc nL ret) (gx_rm (d + 1) mc ms)).room) (m := m) (below := below) (F := MQ below (gx_pst D bs bq cA Q) (av.map (gx_tr bs bq)).toArray s mc ms (fun q => bs ≤ q)) (d := d) (MC := mc) (MS := ms) (ret := ret)
      hx hb hml hown hts (fun _ => hmn) hcx zok (Nat.le_refl _) (Nat.le_refl _) rfl rfl (gx_in_ok l) ih ?_ hE s.heap [] _ 0 0 hr va_S.rf hL (Nat.zero_add _) (Nat.zero_add _)
    · rw [hp0] at this
      exact this
    · intro v h1 H locs cells slots pc ls hq hr1 hS hc hs hrt1
      refine W.widen hc hs ?_
      rcases hrt1 with ⟨x, rfl, hdg, hty⟩ | ⟨rfl, hdg, hty⟩ | ⟨w, rfl, hw, hdg, rt, hty, hobj⟩
      · rcases hty with hty | ⟨hty, hx01⟩
        · exact W.zret (ty := .int) hx hb (hrt.trans hty) rfl (fun t ht hW => ⟨⟨_, h1, hq, rfl, by rw [ht]; exact hr1⟩, hS.F ht⟩) hS.2.2 hdg
        · exact W.zret (ty := .boolean) hx hb (hrt.trans hty) (by rcases hx01 with rfl | rfl <;> decide) (fun t ht hW => ⟨⟨_, h1, hq, rfl, by rw [ht]; exact hr1⟩, hS.F ht⟩) hS.2.2 hdg
      · exact W.vret hx hb (hrt.trans hty) (fun t ht hW => ⟨⟨_, h1, hq, rfl, by rw [ht]; exact hr1⟩, hS.F ht⟩) hS.2.2 hdg
      · refine W.aret hx hb (hrt.trans hty) hobj ?_ (fun t ht hW => ⟨⟨_, h1, hq, rfl, by rw [ht]; exact hr1⟩, hS.F ht⟩) hS.2.2 hdg
        rcases hw with rfl | ⟨a, rfl⟩
        · exact Or.inl rfl
        · exact Or.inr ⟨_, rfl⟩
