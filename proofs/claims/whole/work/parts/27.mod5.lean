/-! The reference: swap, locals, what can be seen. -/
section GME
variable {LL : Nat} {xs : Nat → Int32} {d : Nat} {pre : Nat → gx_A} {n : Nat} {μ : Nat → Nat} {sp : Nat} {fo : Option Nat} {pc lp : Int32} {cl : Nat → Int32} {tk : Nat → Nat} {tc : Nat} {F : Nat → ga_F} {gv : Nat → Int32} {k : Nat} {M : ga_M}
theorem m_swap_e (hmk : ga_mk μ sp M) (htk : ga_tk tk M) (hs : sp ≤ 1024) {y : Int32} (hy : ga_e μ sp M (nI 2) = y) (h0 : ¬ y = 0) : gx_call LL xs (d + 4) z_M_swap 0 0 [.ref 43] (gm_h pre n μ sp (ga_top M) pc lp cl tk (ga_tc M) F gv) (fun r h => r = some (.int y) ∧ h = (gm_h pre n μ sp (ga_top M) pc lp cl tk (ga_tc M) F gv)) := by
  cases hf : ga_top M with
  | none =>
    rw [ga_e_n (by decide) hf] at hy
    subst hy
    exact gs_M_swap _ (gx_run 3 (And.intro ⟨_, rfl⟩ (gx_c1 (gx_le8 rfl) m_hasFrame_n (And.intro (fun c => absurd rfl c) (fun _ => gx_run 3 (gx_c1 (gx_le8 rfl) m_f6 (And.intro rfl rfl)))))))
  | some f =>
    have hlt := ga_top_lt hmk hf
    have hvl := ga_vc_le hmk
    rw [ga_e_s (by decide) hf] at hy
    have hvc := m_values (LL := LL) (xs := xs) (d := d) (pre := pre) (n := n) (pc := pc) (lp := lp) (cl := cl) (F := F) (gv := gv) hmk htk hs hf
    rw [hf] at hvc
    refine gs_M_swap _ (gx_run 3 (And.intro ⟨_, rfl⟩ (gx_c1 (gx_le8 rfl) (m_hasFrame (by omega)) (And.intro (fun _ => gx_run 4 (And.intro ⟨_, rfl⟩ (gx_c1 (gx_le8 rfl) hvc ?_))) (fun c => absurd c (by decide))))))
    by_cases c : nI (ga_vc μ sp M) < nI 2
    · rw [if_pos c] at hy
      subst hy
      exact And.intro (fun z => absurd c (Int32.not_lt.mpr z)) (fun _ => gx_run 3 (gx_c1 (gx_le8 rfl) m_f2 (And.intro rfl rfl)))
    · rw [if_neg c] at hy
      exact absurd hy.symm h0
theorem m_swap {f : Nat} (hmk : ga_mk μ sp M) (htk : ga_tk tk M) (hs : sp ≤ 1024) (hf : ga_top M = some f) (hm : 2 ≤ ga_vc μ sp M) : gx_call LL xs (d + 4) z_M_swap 0 0 [.ref 43] (gm_h pre n μ sp (ga_top M) pc lp cl tk (ga_tc M) F gv) (fun r h => r = some (.int (nI 1)) ∧ h = (gm_h pre n (ga_ws (sp - 4 * 2) (ga_rv μ sp 2 1) μ 2) sp (ga_top M) pc lp cl tk (ga_tc M) F gv)) := by
  have hlt := ga_top_lt hmk hf
  have hvl := ga_vc_le hmk
  rw [← ga_wq_ws (by omega) (by decide)]
  have hvc := m_values (LL := LL) (xs := xs) (d := d) (pre := pre) (n := n) (pc := pc) (lp := lp) (cl := cl) (F := F) (gv := gv) hmk htk hs hf
  have r1 := m_read (LL := LL) (xs := xs) (d := d + 2) (pre := pre) (n := n) (μ := μ) (sp := sp) (fo := some f) (pc := pc) (lp := lp) (cl := cl) (tk := tk) (tc := ga_tc M) (F := F) (gv := gv) (a := sp - 4) (w := 4) (by omega)
  have r2 := m_read (LL := LL) (xs := xs) (d := d + 2) (pre := pre) (n := n) (μ := μ) (sp := sp) (fo := some f) (pc := pc) (lp := lp) (cl := cl) (tk := tk) (tc := ga_tc M) (F := F) (gv := gv) (a := sp - 8) (w := 4) (by omega)
  have w1 := m_write (LL := LL) (xs := xs) (d := d + 2) (pre := pre) (n := n) (μ := μ) (sp := sp) (fo := some f) (pc := pc) (lp := lp) (cl := cl) (tk := tk) (tc := ga_tc M) (F := F) (gv := gv) (a := sp - 4) (w := 4) (ga_rd μ (sp - 8) 4) (by omega)
  have w2 := m_write (LL := LL) (xs := xs) (d := d + 2) (pre := pre) (n := n) (μ := ga_wr μ (sp - 4) 4 (ga_rd μ (sp - 8) 4)) (sp := sp) (fo := some f) (pc := pc) (lp := lp) (cl := cl) (tk := tk) (tc := ga_tc M) (F := F) (gv := gv) (a := sp - 8) (w := 4) (ga_rd μ (sp - 4) 4) (by omega)
  have e : ga_wq (sp - 4 * 2) 2 1 (fun i => ga_rd μ (sp - 4 * 2 + 4 * i) 4) μ 2 = ga_wr (ga_wr μ (sp - 4) 4 (ga_rd μ (sp - 8) 4)) (sp - 8) 4 (ga_rd μ (sp - 4) 4) := by
    show ga_wr (ga_wr μ (sp - 8 + 4) 4 (ga_rd μ (sp - 8) 4)) (sp - 8) 4 (ga_rd μ (sp - 8 + 4) 4) = _
    rw [show sp - 8 + 4 = sp - 4 by omega]
  rw [← pk_sub (show 4 ≤ sp by omega)] at r1 w1
  rw [← pk_sub (show 8 ≤ sp by omega)] at r2 w2
  rw [e]
  rw [hf] at hvc ⊢
  refine gs_M_swap _ (gx_run 3 (And.intro ⟨_, rfl⟩ (gx_c1 (gx_le8 rfl) (m_hasFrame (by omega)) (And.intro (fun _ => gx_run 4 (And.intro ⟨_, rfl⟩ (gx_c1 (gx_le8 rfl) hvc (And.intro (fun _ => ?_) (fun c => absurd (nI_le hm (by omega)) c))))) (fun c => absurd c (by decide))))))
  exact gx_run 32 (And.intro ⟨_, rfl⟩ (gx_c1 (gx_le8 rfl) r1 (And.intro ⟨_, rfl⟩ (gx_c1 (gx_le8 rfl) r2 (And.intro ⟨_, rfl⟩ (gx_c1 (gx_le8 rfl) w1 (And.intro ⟨_, rfl⟩ (gx_c1 (gx_le8 rfl) w2 (And.intro rfl rfl)))))))))
theorem m_against (place w : Int32) (hmk : ga_mk μ sp M) (hs : sp ≤ 1024) : gx_call LL xs (d + 3) z_M_against 0 0 [.ref 43, .int place, .int w] (gm_h pre n μ sp (ga_top M) pc lp cl tk (ga_tc M) F gv) (fun r h => r = some (.int (ga_el μ M place w)) ∧ h = (gm_h pre n μ sp (ga_top M) pc lp cl tk (ga_tc M) F gv)) := by
  refine gs_M_against _ _ _ (gx_run 3 (gx_c1 (gx_le8 rfl) (m_isWidth w) ?_))
  by_cases hw : w = nI 1 ∨ w = nI 2 ∨ w = nI 4
  · rw [if_pos hw]
    refine And.intro (fun _ => ?_) (fun c => absurd c (by decide))
    have e : ga_el μ M place w = match ga_top M with
      | none => -(nI 16)
      | some f => if ga_il μ f place w = true then nI 0 else -(nI 13) := if_neg (fun h => h hw)
    rw [e]
    cases hf : ga_top M with
    | none => exact gx_run 3 (And.intro ⟨_, rfl⟩ (gx_c1 (gx_le8 rfl) m_hasFrame_n (And.intro (fun c => absurd rfl c) (fun _ => gx_run 3 (gx_c1 (gx_le8 rfl) m_f6 (And.intro rfl rfl))))))
    | some f =>
      have hlt := ga_mk_top hmk hf
      have hc := m_isPlace (LL := LL) (xs := xs) (d := d + 1) place (nI (ga_w μ f - ga_w μ (f + 4)) - w) (h := (gm_h pre n μ sp (some f) pc lp cl tk (ga_tc M) F gv))
      rw [← pk_sub hlt.2.2.1] at hc
      refine gx_run 3 (And.intro ⟨_, rfl⟩ (gx_c1 (gx_le8 rfl) (m_hasFrame (by omega)) (And.intro (fun _ => gx_run 14 (And.intro ⟨_, rfl⟩ (gx_c1 (gx_le8 rfl) (m_lengthAt (by omega)) (And.intro ⟨_, rfl⟩ (gx_c1 (gx_le8 rfl) (m_localsAt (by omega)) (gx_c1 (gx_le8 rfl) hc ?_)))))) (fun c => absurd c (by decide)))))
      rw [pk_sub hlt.2.2.1]
      show (ga_b (ga_il μ f place w) = 0 → _) ∧ (¬ ga_b (ga_il μ f place w) = 0 → _)
      cases hil : ga_il μ f place w with
      | true => exact And.intro (fun c => absurd c (by decide)) (fun _ => gx_run 3 (And.intro (by simp [hil]) rfl))
      | false => exact And.intro (fun _ => gx_run 3 (gx_c1 (gx_le8 rfl) m_f3 (And.intro (by simp [hil]) rfl))) (fun c => absurd rfl c)
  · rw [if_neg hw]
    refine And.intro (fun c => absurd rfl c) (fun _ => gx_run 2 (And.intro ?_ rfl))
    unfold ga_el
    rw [if_pos hw]
theorem m_load_e (place w : Int32) (hmk : ga_mk μ sp M) (hs : sp ≤ 1024) {y : Int32} (hy : ga_el μ M place w = y) (h0 : ¬ y = 0) : gx_call LL xs (d + 4) z_M_load 0 0 [.ref 43, .int place, .int w] (gm_h pre n μ sp (ga_top M) pc lp cl tk (ga_tc M) F gv) (fun r h => r = some (.int y) ∧ h = (gm_h pre n μ sp (ga_top M) pc lp cl tk (ga_tc M) F gv)) := by
  have hfl := m_against (LL := LL) (xs := xs) (d := d) (pre := pre) (n := n) (pc := pc) (lp := lp) (cl := cl) (tk := tk) (F := F) (gv := gv) place w hmk hs
  rw [hy] at hfl
  exact gs_M_load _ _ _ (gx_run 7 (And.intro ⟨_, rfl⟩ (gx_c1 (gx_le8 rfl) hfl (And.intro (fun c => absurd c h0) (fun _ => gx_run 2 (And.intro rfl rfl))))))
theorem m_load {f p v : Nat} (hmk : ga_mk μ sp M) (hs : sp ≤ 1024) (hy : ga_el μ M (nI p) (nI v) = nI 0) (hf : ga_top M = some f) (hv : v ≤ 4) (hp : p + v ≤ ga_w μ f - ga_w μ (f + 4)) : gx_call LL xs (d + 4) z_M_load 0 0 [.ref 43, .int (nI p), .int (nI v)] (gm_h pre n μ sp (ga_top M) pc lp cl tk (ga_tc M) F gv) (fun r h => r = some (.int (nI 1)) ∧ h = (gm_h pre n μ sp (ga_top M) pc (ga_rd μ (f + ga_w μ (f + 4) + p) v) cl tk (ga_tc M) F gv)) := by
  have hfl := m_against (LL := LL) (xs := xs) (d := d) (pre := pre) (n := n) (pc := pc) (lp := lp) (cl := cl) (tk := tk) (F := F) (gv := gv) (nI p) (nI v) hmk hs
  rw [hy] at hfl
  have hlt := ga_mk_top hmk hf
  have r1 := m_read (LL := LL) (xs := xs) (d := d + 2) (pre := pre) (n := n) (μ := μ) (sp := sp) (fo := some f) (pc := pc) (lp := lp) (cl := cl) (tk := tk) (tc := ga_tc M) (F := F) (gv := gv) (a := f + ga_w μ (f + 4) + p) (w := v) (by omega)
  rw [← nI_add, ← nI_add] at r1
  rw [hf] at hfl ⊢
  refine gs_M_load _ _ _ (gx_run 7 (And.intro ⟨_, rfl⟩ (gx_c1 (gx_le8 rfl) hfl (And.intro (fun _ => ?_) (fun c => absurd rfl c)))))
  exact gx_run 16 (And.intro ⟨_, rfl⟩ (gx_c1 (gx_le8 rfl) (m_localsAt (by omega)) (And.intro ⟨_, rfl⟩ (gx_c1 (gx_le8 rfl) r1 (And.intro rfl rfl)))))
theorem m_store_e (place w x : Int32) (hmk : ga_mk μ sp M) (hs : sp ≤ 1024) {y : Int32} (hy : ga_el μ M place w = y) (h0 : ¬ y = 0) : gx_call LL xs (d + 4) z_M_store 0 0 [.ref 43, .int place, .int w, .int x] (gm_h pre n μ sp (ga_top M) pc lp cl tk (ga_tc M) F gv) (fun r h => r = some (.int y) ∧ h = (gm_h pre n μ sp (ga_top M) pc lp cl tk (ga_tc M) F gv)) := by
  have hfl := m_against (LL := LL) (xs := xs) (d := d) (pre := pre) (n := n) (pc := pc) (lp := lp) (cl := cl) (tk := tk) (F := F) (gv := gv) place w hmk hs
  rw [hy] at hfl
  exact gs_M_store _ _ _ _ (gx_run 7 (And.intro ⟨_, rfl⟩ (gx_c1 (gx_le8 rfl) hfl (And.intro (fun c => absurd c h0) (fun _ => gx_run 2 (And.intro rfl rfl))))))
theorem m_store {f p v : Nat} (x : Int32) (hmk : ga_mk μ sp M) (hs : sp ≤ 1024) (hy : ga_el μ M (nI p) (nI v) = nI 0) (hf : ga_top M = some f) (hv : v ≤ 4) (hp : p + v ≤ ga_w μ f - ga_w μ (f + 4)) : gx_call LL xs (d + 4) z_M_store 0 0 [.ref 43, .int (nI p), .int (nI v), .int x] (gm_h pre n μ sp (ga_top M) pc lp cl tk (ga_tc M) F gv) (fun r h => r = some (.int (nI 1)) ∧ h = (gm_h pre n (ga_wr μ (f + ga_w μ (f + 4) + p) v x) sp (ga_top M) pc lp cl tk (ga_tc M) F gv)) := by
  have hfl := m_against (LL := LL) (xs := xs) (d := d) (pre := pre) (n := n) (pc := pc) (lp := lp) (cl := cl) (tk := tk) (F := F) (gv := gv) (nI p) (nI v) hmk hs
  rw [hy] at hfl
  have hlt := ga_mk_top hmk hf
  have w1 := m_write (LL := LL) (xs := xs) (d := d + 2) (pre := pre) (n := n) (μ := μ) (sp := sp) (fo := some f) (pc := pc) (lp := lp) (cl := cl) (tk := tk) (tc := ga_tc M) (F := F) (gv := gv) (a := f + ga_w μ (f + 4) + p) (w := v) x (by omega)
  rw [← nI_add (f + _) p, ← nI_add f] at w1
  rw [hf] at hfl ⊢
  refine gs_M_store _ _ _ _ (gx_run 7 (And.intro ⟨_, rfl⟩ (gx_c1 (gx_le8 rfl) hfl (And.intro (fun _ => ?_) (fun c => absurd rfl c)))))
  exact gx_run 15 (And.intro ⟨_, rfl⟩ (gx_c1 (gx_le8 rfl) (m_localsAt (by omega)) (And.intro ⟨_, rfl⟩ (gx_c1 (gx_le8 rfl) w1 (And.intro rfl rfl)))))
theorem m_byteAt_n (x : Int32) (hs : sp ≤ 1024) (hx : x < 0 ∨ nI sp ≤ x) : gx_call LL xs (d + 1) z_M_byteAt 0 0 [.ref 43, .int x] (gm_h pre n μ sp fo pc lp cl tk tc F gv) (fun r h => r = some (.int (-(nI 1))) ∧ h = (gm_h pre n μ sp fo pc lp cl tk tc F gv)) := by
  refine gs_M_byteAt _ _ (gx_run 10 (And.intro (gx_le8 rfl) (And.intro (fun c => absurd ((ga_inv1 (by omega)).mp c) ?_) (fun c => And.intro (fun _ => gx_run 2 (And.intro rfl rfl)) (fun z => absurd rfl z)))))
  rintro ⟨h1, h2⟩
  rcases hx with h | h
  · exact h1 h
  · exact h2 h
theorem m_byteAt {j : Nat} (hj : j < sp) (hs : sp ≤ 1024) : gx_call LL xs (d + 1) z_M_byteAt 0 0 [.ref 43, .int (nI j)] (gm_h pre n μ sp fo pc lp cl tk tc F gv) (fun r h => r = some (.int (nI (μ j))) ∧ h = (gm_h pre n μ sp fo pc lp cl tk tc F gv)) :=
  gs_M_byteAt _ _ (gx_run 10 (And.intro (gx_le8 rfl) (And.intro (fun c => And.intro (fun z => absurd z (by decide)) (fun _ => gx_run 6 (gx_ar j rfl (show j < 1024 by omega) (by decide) (And.intro rfl rfl)))) (fun c => absurd ((ga_inv1 (by omega)).mpr ⟨nI_pos (by omega), nI_ge hj (by omega)⟩) c))))
theorem m_cell_n (x : Int32) (hx : x < 0 ∨ nI 16 ≤ x) : gx_call LL xs (d + 1) z_M_cell 0 0 [.ref 43, .int x] (gm_h pre n μ sp fo pc lp cl tk tc F gv) (fun r h => r = some (.int (nI 0)) ∧ h = (gm_h pre n μ sp fo pc lp cl tk tc F gv)) := by
  refine gs_M_cell _ _ (gx_run 6 (And.intro (gx_le8 rfl) (And.intro (fun c => ?_) (fun c => And.intro (fun _ => gx_run 2 (And.intro rfl rfl)) (fun z => absurd rfl z)))))
  obtain ⟨j, hj, rfl⟩ := ga_in (by decide) c
  rcases hx with h | h
  · exact absurd h (nI_pos (by omega))
  · exact absurd h (nI_ge (by omega) (by decide))
theorem m_cell {j : Nat} (hj : j < 16) : gx_call LL xs (d + 1) z_M_cell 0 0 [.ref 43, .int (nI j)] (gm_h pre n μ sp fo pc lp cl tk tc F gv) (fun r h => r = some (.int (cl j)) ∧ h = (gm_h pre n μ sp fo pc lp cl tk tc F gv)) :=
  gs_M_cell _ _ (gx_run 6 (And.intro (gx_le8 rfl) (And.intro (fun c => And.intro (fun z => absurd z (by decide)) (fun _ => gx_run 6 (gx_ar j rfl hj (by decide) (And.intro rfl rfl)))) (fun c => absurd (ga_yx (by decide) (by omega)) c))))
theorem m_frames_l (hs : sp ≤ 1024) (M0 : ga_M) : ∀ (M : ga_M) (lim c : Nat), ga_mk μ lim M → lim ≤ sp → c + ga_fc M ≤ 1024 →
    gx_E LL xs (gx_call LL xs (d + 1)) cd_M_frames (fun r h => r = some (.int (nI (c + ga_fc M))) ∧ h = (gm_h pre n μ sp (ga_top M0) pc lp cl tk (ga_tc M0) F gv)) 5 [some (.ref 43), some (.int (nI c)), some (.int (ga_fp (ga_top M)))] [] (gm_h pre n μ sp (ga_top M0) pc lp cl tk (ga_tc M0) F gv) 0 0
  | [], lim, c, _, _, _ => gx_run 2 (And.intro (fun _ => gx_run 2 (And.intro rfl rfl)) (fun c => absurd (by decide) c))
  | (false, t) :: es, lim, c, ⟨h1, h2, h3, h4, h5⟩, hl, hc => m_frames_l hs M0 es (t - 16) c h5 (by omega) hc
  | (true, f) :: es, lim, c, ⟨h1, h2, h3, h4, h5, h6⟩, hl, hc => by
    have hc' : c + (ga_fc es + 1) ≤ 1024 := hc
    have r1 := m_read (LL := LL) (xs := xs) (d := d) (pre := pre) (n := n) (μ := μ) (sp := sp) (fo := ga_top M0) (pc := pc) (lp := lp) (cl := cl) (tk := tk) (tc := ga_tc M0) (F := F) (gv := gv) (a := f - 4) (w := 4) (by omega)
    rw [← pk_sub (show 4 ≤ f by omega), h5] at r1
    have h9 := m_frames_l hs M0 es (f - 16) (c + 1) h6 (by omega) (by omega)
    rw [← nI_add c 1, show c + 1 + ga_fc es = c + ga_fc ((true, f) :: es) from by show c + 1 + ga_fc es = c + (ga_fc es + 1); omega] at h9
    exact gx_run 2 (And.intro (fun z => absurd z (nI_pos (by omega))) (fun _ => gx_run 9 (And.intro ⟨_, rfl⟩ (gx_c1 (gx_le8 rfl) r1 h9))))
theorem m_frames (hmk : ga_mk μ sp M) (hs : sp ≤ 1024) : gx_call LL xs (d + 2) z_M_frames 0 0 [.ref 43] (gm_h pre n μ sp (ga_top M) pc lp cl tk (ga_tc M) F gv) (fun r h => r = some (.int (nI (ga_fc M))) ∧ h = (gm_h pre n μ sp (ga_top M) pc lp cl tk (ga_tc M) F gv)) := by
  have h9 := m_frames_l (LL := LL) (xs := xs) (d := d) (pre := pre) (n := n) (pc := pc) (lp := lp) (cl := cl) (tk := tk) (F := F) (gv := gv) hs M M sp 0 hmk (Nat.le_refl _) (by have := ga_tc_le hmk; omega)
  rw [Nat.zero_add] at h9
  exact gs_M_frames _ (gx_run 5 h9)
theorem m_count (x : Int32) (hmk : ga_mk μ sp M) (htk : ga_tk tk M) (hs : sp ≤ 1024) : gx_call LL xs (d + 4) z_M_count 0 0 [.ref 43, .int x] (gm_h pre n μ sp (ga_top M) pc lp cl tk (ga_tc M) F gv) (fun r h => r = some (.int (ga_ct n μ sp M pc tk x)) ∧ h = (gm_h pre n μ sp (ga_top M) pc lp cl tk (ga_tc M) F gv)) := by
  have hcnt := ga_tc_le hmk
  refine gs_M_count _ _ (gx_run 2 (And.intro (fun c => ?_) (And.intro (fun c => ?_) (And.intro (fun c => ?_) (And.intro (fun c => ?_) (And.intro (fun c => ?_) (And.intro (fun c => ?_) (And.intro (fun c => ?_) (And.intro (fun c => ?_) (And.intro (fun c => ?_) trivial))))))))))
  · refine gx_run 2 (And.intro ?_ rfl)
    have c0 : ¬ x = nI 0 := c 0 (by decide)
    have c1 : ¬ x = nI 1 := c 1 (by decide)
    have c2 : ¬ x = nI 2 := c 2 (by decide)
    have c3 : ¬ x = nI 3 := c 3 (by decide)
    have c4 : ¬ x = nI 4 := c 4 (by decide)
    have c5 : ¬ x = nI 5 := c 5 (by decide)
    have c6 : ¬ x = nI 6 := c 6 (by decide)
    have c7 : ¬ x = nI 7 := c 7 (by decide)
    simp only [ga_ct, if_neg c0, if_neg c1, if_neg c2, if_neg c3, if_neg c4, if_neg c5, if_neg c6, if_neg c7]
  · obtain rfl : x = nI 0 := c
    exact gx_run 3 (And.intro rfl rfl)
  · obtain rfl : x = nI 1 := c
    exact gx_run 3 (And.intro rfl rfl)
  · obtain rfl : x = nI 2 := c
    have e : ga_ct n μ sp M pc tk (nI 2) = match ga_top M with
      | none => -(nI 1)
      | some _ => nI (ga_vc μ sp M) := rfl
    rw [e]
    cases hf : ga_top M with
    | none => exact gx_run 3 (And.intro ⟨_, rfl⟩ (gx_c1 (gx_le8 rfl) m_hasFrame_n (And.intro (fun _ => gx_run 2 (And.intro rfl rfl)) (fun c => absurd rfl c))))
    | some f =>
      have hlt := ga_top_lt hmk hf
      have hvc := m_values (LL := LL) (xs := xs) (d := d) (pre := pre) (n := n) (pc := pc) (lp := lp) (cl := cl) (F := F) (gv := gv) hmk htk hs hf
      rw [hf] at hvc
      exact gx_run 3 (And.intro ⟨_, rfl⟩ (gx_c1 (gx_le8 rfl) (m_hasFrame (by omega)) (And.intro (fun c => absurd c (by decide)) (fun _ => gx_run 4 (And.intro ⟨_, rfl⟩ (gx_c1 (gx_le8 rfl) hvc (And.intro rfl rfl)))))))
  · obtain rfl : x = nI 3 := c
    exact gx_run 3 (And.intro rfl rfl)
  · obtain rfl : x = nI 4 := c
    exact gx_run 3 (And.intro rfl rfl)
  · obtain rfl : x = nI 5 := c
    exact gx_run 3 (And.intro rfl rfl)
  · obtain rfl : x = nI 6 := c
    show gx_E _ _ _ _ (fun r h => r = some (.int (ga_fp (ga_lt tk (ga_tc M)))) ∧ _) _ _ _ _ _ _
    cases htc : ga_tc M with
    | zero => exact gx_run 3 (And.intro (fun c => absurd rfl c) (fun _ => gx_run 3 (And.intro rfl rfl)))
    | succ c' => exact gx_run 3 (And.intro (fun _ => gx_run 8 (gx_ar c' (pk_sub (Nat.le_add_left 1 c')) (show c' < 64 by omega) (by decide) (And.intro rfl rfl))) (fun c => absurd c (nI_ne0 (by omega) (by omega))))
  · obtain rfl : x = nI 7 := c
    exact gx_run 3 (And.intro ⟨_, rfl⟩ (gx_c1 (gx_le8 rfl) (m_frames hmk hs) (And.intro rfl rfl)))
end GME
