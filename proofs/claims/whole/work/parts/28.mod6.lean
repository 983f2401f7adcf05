/-! The reference: frames entered and left. -/
section GMF
variable {LL : Nat} {xs : Nat → Int32} {d : Nat} {pre : Nat → gx_A} {n : Nat} {μ : Nat → Nat} {sp : Nat} {fo : Option Nat} {pc lp : Int32} {cl : Nat → Int32} {tk : Nat → Nat} {tc : Nat} {F : Nat → ga_F} {gv : Nat → Int32} {k : Nat} {M : ga_M}
theorem m_enter_z {m l b f : Nat} {Q : gx_Q} {w6 : Option Value} (hl : f + l ≤ 1024) (hO : ∀ w : Option Value, gx_E LL xs (gx_call LL xs d) cd_M_enter Q 27 [some (.ref 43), some (.int (nI k)), some (.int (nI m)), some (.int (nI l)), some (.int (nI b)), w, w6] [] (gm_h pre n (ga_z μ f l) sp (some f) pc lp cl tk tc F gv) 0 0) : ∀ (q i : Nat), i + q = l →
    gx_E LL xs (gx_call LL xs d) cd_M_enter Q 14 [some (.ref 43), some (.int (nI k)), some (.int (nI m)), some (.int (nI l)), some (.int (nI b)), some (.int (nI i)), w6] [] (gm_h pre n (ga_z μ f i) sp (some f) pc lp cl tk tc F gv) 0 0 := by
  intro q
  induction q with
  | zero =>
    intro i hq
    obtain rfl : i = l := by omega
    exact gx_run 3 (And.intro (fun _ => hO _) (fun c => absurd (nI_le (Nat.le_refl i) (by omega)) c))
  | succ q ih =>
    intro i hq
    have h9 := ih (i + 1) (by omega)
    have e2 : (gm_h pre n (va_up (ga_z μ f i) (f + i) 0) sp (some f) pc lp cl tk tc F gv) = (gm_h pre n (ga_z μ f i) sp (some f) pc lp cl tk tc F gv).set 44 (.inl (0, 1024, upd (fun j => nI (ga_z μ f i j)) (f + i) (nI 0))) := by
      rw [gm_byte]
      rfl
    rw [← nI_add i 1, ← ga_z_s, e2] at h9
    exact gx_run 3 (And.intro (fun c => absurd c (nI_ge (show i < l by omega) (by omega))) (fun _ => gx_run 10 (gx_ar (f + i) (nI_add f i) (by omega) (by decide) h9)))
theorem m_enter_p {m l b f : Nat} {Q : gx_Q} {w6 : Option Value} (hk : k < 12) (hw : ga_wf (F k)) (hl : f + 8 + 2 * (F k).2.2.1 ≤ 1024) (hO : ∀ w : Option Value, gx_E LL xs (gx_call LL xs d) cd_M_enter Q 89 [some (.ref 43), some (.int (nI k)), some (.int (nI m)), some (.int (nI l)), some (.int (nI b)), w, w6] [] (gm_h pre n (ga_pr (F k) (f + 8) μ (F k).2.2.1) sp (some f) pc lp cl tk tc F gv) 0 0) : ∀ (q p : Nat), p + q = (F k).2.2.1 →
    gx_E LL xs (gx_call LL xs d) cd_M_enter Q 43 [some (.ref 43), some (.int (nI k)), some (.int (nI m)), some (.int (nI l)), some (.int (nI b)), some (.int (nI p)), w6] [] (gm_h pre n (ga_pr (F k) (f + 8) μ p) sp (some f) pc lp cl tk tc F gv) 0 0 := by
  have h6 := hw.2.2.1
  intro q
  induction q with
  | zero =>
    intro p hq
    obtain rfl : p = (F k).2.2.1 := by omega
    exact gx_run 6 (gx_ar k rfl hk (by decide) (And.intro (fun _ => hO _) (fun c => absurd (nI_le (Nat.le_refl (F k).2.2.1) (by omega)) c)))
  | succ q ih =>
    intro p hq
    obtain ⟨e1, e2⟩ := ga_dm (f := k) (p := p) (by omega)
    have h9 := ih (p + 1) (by omega)
    have e3 : (gm_h pre n (ga_pr (F k) (f + 8) μ (p + 1)) sp (some f) pc lp cl tk tc F gv) = ((gm_h pre n (ga_pr (F k) (f + 8) μ p) sp (some f) pc lp cl tk tc F gv).set 44 (.inl (0, 1024, upd (fun j => nI (ga_pr (F k) (f + 8) μ p j)) (f + 8 + 2 * p) (nI ((F ((6 * k + p) / 6)).2.2.2.1 ((6 * k + p) % 6)))))).set 44 (.inl (0, 1024, upd (upd (fun j => nI (ga_pr (F k) (f + 8) μ p j)) (f + 8 + 2 * p) (nI ((F ((6 * k + p) / 6)).2.2.2.1 ((6 * k + p) % 6)))) (f + 8 + 2 * p + 1) (nI ((F ((6 * k + p) / 6)).2.2.2.2 ((6 * k + p) % 6))))) := by
      rw [e1, e2, gm_byte, gm_byte]
      rfl
    rw [← nI_add p 1, e3] at h9
    refine gx_run 6 (gx_ar k rfl hk (by decide) (And.intro (fun c => absurd c (nI_ge (show p < (F k).2.2.1 by omega) (by omega))) (fun _ => gx_run 40 ?_)))
    refine gx_ar (6 * k + p) (by rw [pk_mul, nI_add]) (by omega) (by decide) (gx_ar (f + 8 + 2 * p) (by show nI f + nI 8 + nI 2 * nI p = _; rw [nI_add, pk_mul, nI_add]) (by omega) (by decide) ?_)
    exact gx_ar (6 * k + p) (by rw [pk_mul, nI_add]) (by omega) (by decide) (gx_ar (f + 8 + 2 * p + 1) (by show nI f + nI 9 + nI 2 * nI p = _; rw [nI_add, pk_mul, nI_add]; congr 1; omega) (by omega) (by decide) h9)
theorem m_enter_l {m l b f : Nat} (hk : k < 12) (hw : ga_wf (F k)) (hl : f + ga_len (F k) ≤ 1024) (hm : m ≤ 256) : ∀ (q i : Nat), i + q = min m (ga_ls (F k)) →
    gx_E LL xs (gx_call LL xs (d + 3)) cd_M_enter (fun r h => r = none ∧ h = (gm_h pre n (ga_sl (F k) gv (f + ga_lb (F k)) μ (min m (ga_ls (F k)))) sp (some f) pc lp cl tk tc F gv)) 107 [some (.ref 43), some (.int (nI k)), some (.int (nI m)), some (.int (nI l)), some (.int (nI b)), some (.int (nI (ga_ls (F k)))), some (.int (nI i))] [] (gm_h pre n (ga_sl (F k) gv (f + ga_lb (F k)) μ i) sp (some f) pc lp cl tk tc F gv) 0 0 := by
  have hls := ga_ls_le hw
  intro q
  induction q with
  | zero =>
    intro i hq
    obtain rfl : i = min m (ga_ls (F k)) := by omega
    by_cases c : m ≤ ga_ls (F k)
    · exact gx_run 3 (And.intro (fun _ => gx_run 1 (And.intro rfl rfl)) (fun z => absurd (nI_le (show m ≤ min m (ga_ls (F k)) by omega) (by omega)) z))
    · exact gx_run 3 (And.intro (fun _ => gx_run 1 (And.intro rfl rfl)) (fun _ => gx_run 3 (And.intro (fun _ => gx_run 1 (And.intro rfl rfl)) (fun z => absurd (nI_le (show ga_ls (F k) ≤ min m (ga_ls (F k)) by omega) (by omega)) z))))
  | succ q ih =>
    intro i hq
    have hil : i < ga_ls (F k) := by omega
    have hin := (ga_pc_in hw hil).2
    have h9 := ih (i + 1) (by omega)
    rw [← nI_add i 1] at h9
    have c1 := m_placeOf (LL := LL) (xs := xs) (d := d) (pre := pre) (n := n) (μ := ga_sl (F k) gv (f + ga_lb (F k)) μ i) (sp := sp) (fo := some f) (pc := pc) (lp := lp) (cl := cl) (tk := tk) (tc := tc) (F := F) (gv := gv) hk hw (q := i) (by omega)
    rw [ga_po_in hw hil] at c1
    have c2 := m_widthOf (LL := LL) (xs := xs) (d := d + 2) (pre := pre) (n := n) (μ := ga_sl (F k) gv (f + ga_lb (F k)) μ i) (sp := sp) (fo := some f) (pc := pc) (lp := lp) (cl := cl) (tk := tk) (tc := tc) (F := F) (gv := gv) hk hw (q := i) (by omega)
    have c3 := m_write (LL := LL) (xs := xs) (d := d + 2) (pre := pre) (n := n) (μ := ga_sl (F k) gv (f + ga_lb (F k)) μ i) (sp := sp) (fo := some f) (pc := pc) (lp := lp) (cl := cl) (tk := tk) (tc := tc) (F := F) (gv := gv) (a := f + ga_lb (F k) + ga_pc (F k) i) (w := ga_wk (F k) i) (gv i) (by omega)
    rw [Nat.add_assoc f, ← nI_add f, ← Nat.add_assoc] at c3
    refine gx_run 3 (And.intro (fun c => absurd c (nI_ge (show i < m by omega) (by omega))) (fun _ => gx_run 3 (And.intro (fun c => absurd c (nI_ge hil (by omega))) (fun _ => gx_run 19 ?_))))
    exact And.intro ⟨_, rfl⟩ (gx_c1 (gx_le8 rfl) c1 (And.intro ⟨_, rfl⟩ (gx_c1 (gx_le8 rfl) c2 (gx_ar i rfl (show i < 256 by omega) (by decide) (And.intro ⟨_, rfl⟩ (gx_c1 (gx_le8 rfl) c3 h9))))))
theorem m_enter_s {m l b f : Nat} {w6 : Option Value} (hm : m ≤ 256) (hs : sp + 4 * (m + 1) ≤ 1024) : ∀ (q p : Nat), p + q = m →
    gx_E LL xs (gx_call LL xs (d + 2)) cd_M_enter (fun r h => r = none ∧ h = (gm_h pre n (ga_wr (ga_ws sp (fun p => gv (m - 1 - p)) μ m) (sp + 4 * m) 4 (nI m)) (sp + 4 * m + 4) (some f) pc lp cl tk tc F gv)) 137 [some (.ref 43), some (.int (nI k)), some (.int (nI m)), some (.int (nI l)), some (.int (nI b)), some (.int (nI q - nI 1)), w6] [] (gm_h pre n (ga_ws sp (fun p => gv (m - 1 - p)) μ p) (sp + 4 * p) (some f) pc lp cl tk tc F gv) 0 0 := by
  intro q
  induction q with
  | zero =>
    intro p hq
    obtain rfl : p = m := by omega
    exact gx_run 2 (And.intro (fun _ => gx_run 4 (And.intro ⟨_, rfl⟩ (gx_c1 (gx_le8 rfl) (m_pushes _ (by omega)) (And.intro rfl rfl)))) (fun c => absurd (by decide) c))
  | succ q ih =>
    intro p hq
    have h9 := ih (p + 1) (by omega)
    rw [show sp + 4 * (p + 1) = sp + 4 * p + 4 by omega] at h9
    have e : gv q = (fun p => gv (m - 1 - p)) p := by
      show gv q = gv (m - 1 - p)
      rw [show m - 1 - p = q by omega]
    have c1 := m_pushes (LL := LL) (xs := xs) (d := d) (pre := pre) (n := n) (μ := ga_ws sp (fun p => gv (m - 1 - p)) μ p) (sp := sp + 4 * p) (fo := some f) (pc := pc) (lp := lp) (cl := cl) (tk := tk) (tc := tc) (F := F) (gv := gv) (gv q) (by omega)
    rw [pk_sub (Nat.le_add_left 1 q)]
    refine gx_run 2 (And.intro (fun c => absurd c (nI_pos (by omega))) (fun _ => gx_run 8 (gx_ar q rfl (show q < 256 by omega) (by decide) (And.intro ⟨_, rfl⟩ (gx_c1 (gx_le8 rfl) c1 ?_)))))
    rw [e]
    exact h9
theorem m_enter {m : Nat} (hk : k < 12) (hw : ga_wf (F k)) (hh : (F k).1 = 192 ∨ (F k).1 = 193) (hfl : sp + ga_room (F k) m ≤ 1024) (hm : m ≤ 256) :
    gx_call LL xs (d + 5) z_M_enter 0 0 [.ref 43, .int (nI k), .int (nI m)] (gm_h pre n μ sp fo pc lp cl tk tc F gv) (fun r h => r = none ∧ h = (gm_h pre n (ga_en (F k) gv m μ sp) (sp + ga_room (F k) m) (some sp) pc lp cl tk tc F gv)) := by
  have h6 := hw.2.2.1
  have hrm : ga_len (F k) ≤ ga_room (F k) m := Nat.le_add_right _ _
  have hlb := ga_lb_ge (f := F k)
  have hle := ga_len_ge hw
  refine gs_M_enter _ _ _ (gx_run 14 (And.intro ⟨_, rfl⟩ (gx_c1 (gx_le8 rfl) (m_lengthOf hk hw) (And.intro ⟨_, rfl⟩ (gx_c1 (gx_le8 rfl) (m_begin hk h6) ?_)))))
  have hz := m_enter_z (LL := LL) (xs := xs) (d := d + 4) (pre := pre) (n := n) (μ := μ) (sp := sp) (pc := pc) (lp := lp) (cl := cl) (tk := tk) (tc := tc) (F := F) (gv := gv) (k := k) (m := m) (l := ga_len (F k)) (b := ga_lb (F k)) (f := sp) (w6 := none) (Q := fun r h => r = none ∧ h = (gm_h pre n (ga_en (F k) gv m μ sp) (sp + ga_room (F k) m) (some sp) pc lp cl tk tc F gv)) (by omega) (fun w => ?_) (ga_len (F k)) 0 (Nat.zero_add _)
  · rw [ga_z_0] at hz
    exact hz
  have c3 := m_write (LL := LL) (xs := xs) (d := d + 3) (pre := pre) (n := n) (μ := ga_wr (ga_z μ sp (ga_len (F k))) sp 4 (nI (ga_len (F k)))) (sp := sp) (fo := some sp) (pc := pc) (lp := lp) (cl := cl) (tk := tk) (tc := tc) (F := F) (gv := gv) (a := sp + 4) (w := 4) (nI (ga_lb (F k))) (by omega)
  rw [← nI_add] at c3
  refine gx_run 16 (And.intro ⟨_, rfl⟩ (gx_c1 (gx_le8 rfl) (m_write _ (by omega)) (And.intro ⟨_, rfl⟩ (gx_c1 (gx_le8 rfl) c3 ?_))))
  refine m_enter_p (f := sp) hk hw (by omega) (fun w => ?_) (F k).2.2.1 0 (Nat.zero_add _)
  refine gx_run 10 (gx_ar k rfl hk (by decide) ?_)
  have e0 : (gm_h pre n (ga_hd (F k) μ sp) (sp + ga_len (F k)) (some sp) pc lp cl tk tc F gv) = (gm_h pre n (ga_hd (F k) μ sp) sp (some sp) pc lp cl tk tc F gv).set 43 (.inr (.inr (3, [.int (nI n), .ref 44, .int (nI sp + nI (ga_len (F k))), .int (ga_fp (some sp)), .int pc, .ref 45, .ref 46, .ref 47, .ref 48, .ref 49, .ref 50, .ref 51, .int (nI tc), .int lp, .ref 52]))) := by
    rw [nI_add]
    rfl
  have h255 := hw.1
  by_cases h : (F k).1 = 192
  · have hr : ga_room (F k) m = ga_len (F k) + 4 * (m + 1) := by unfold ga_room; rw [if_pos h]
    have e : ga_en (F k) gv m μ sp = ga_wr (ga_ws (sp + ga_len (F k)) (fun p => gv (m - 1 - p)) (ga_hd (F k) μ sp) m) (sp + ga_len (F k) + 4 * m) 4 (nI m) := if_pos h
    have h9 := m_enter_s (LL := LL) (xs := xs) (d := d + 2) (pre := pre) (n := n) (μ := ga_hd (F k) μ sp) (sp := sp + ga_len (F k)) (pc := pc) (lp := lp) (cl := cl) (tk := tk) (tc := tc) (F := F) (gv := gv) (k := k) (m := m) (l := ga_len (F k)) (b := ga_lb (F k)) (f := sp) (w6 := none) hm (by omega) m 0 (Nat.zero_add m)
    rw [e, hr, show sp + (ga_len (F k) + 4 * (m + 1)) = sp + ga_len (F k) + 4 * m + 4 by omega]
    rw [show ga_ws (sp + ga_len (F k)) (fun p => gv (m - 1 - p)) (ga_hd (F k) μ sp) 0 = ga_hd (F k) μ sp from rfl, show sp + ga_len (F k) + 4 * 0 = sp + ga_len (F k) by omega, e0] at h9
    exact gx_run 2 (And.intro (fun _ => gx_run 4 h9) (fun c => absurd ((nI_eq (by omega) (by decide)).mp c) (by omega)))
  · have h193 : (F k).1 = 193 := hh.resolve_left h
    have hr : ga_room (F k) m = ga_len (F k) := by unfold ga_room; rw [if_neg h]; rfl
    have e : ga_en (F k) gv m μ sp = ga_sl (F k) gv (sp + ga_lb (F k)) (ga_hd (F k) μ sp) (min m (ga_ls (F k))) := if_neg h
    have h9 := m_enter_l (LL := LL) (xs := xs) (d := d + 1) (pre := pre) (n := n) (μ := ga_hd (F k) μ sp) (sp := sp + ga_len (F k)) (pc := pc) (lp := lp) (cl := cl) (tk := tk) (tc := tc) (F := F) (gv := gv) (k := k) (m := m) (l := ga_len (F k)) (b := ga_lb (F k)) (f := sp) hk hw (by omega) hm (min m (ga_ls (F k))) 0 (Nat.zero_add _)
    have c4 := m_locals (LL := LL) (xs := xs) (d := d + 3) (pre := pre) (n := n) (μ := ga_hd (F k) μ sp) (sp := sp + ga_len (F k)) (fo := some sp) (pc := pc) (lp := lp) (cl := cl) (tk := tk) (tc := tc) (F := F) (gv := gv) hk h6
    rw [e, hr]
    rw [show ga_sl (F k) gv (sp + ga_lb (F k)) (ga_hd (F k) μ sp) 0 = ga_hd (F k) μ sp from rfl, e0] at h9
    rw [e0] at c4
    exact gx_run 2 (And.intro (fun c => absurd (show nI (F k).1 = nI 193 by rw [h193]) c) (fun _ => gx_run 6 (And.intro ⟨_, rfl⟩ (gx_c1 (gx_le8 rfl) c4 h9))))
theorem m_hasHead (hk : k < 12) (hf : (F k).1 ≤ 255) : gx_call LL xs (d + 1) z_M_hasHead 0 0 [.ref 43, .int (nI k)] (gm_h pre n μ sp fo pc lp cl tk tc F gv) (fun r h => r = some (.int (if (F k).1 = 192 ∨ (F k).1 = 193 then nI 1 else nI 0)) ∧ h = (gm_h pre n μ sp fo pc lp cl tk tc F gv)) := by
  refine gs_M_hasHead _ _ (gx_run 6 (gx_ar k rfl hk (by decide) (And.intro (fun c => gx_run 3 (And.intro (Or.inr rfl) (And.intro ?_ rfl))) (fun c => gx_run 6 (gx_ar k rfl hk (by decide) (And.intro (fun c2 => gx_run 2 (And.intro (Or.inl rfl) (And.intro ?_ rfl))) (fun c2 => gx_run 3 (And.intro (Or.inr rfl) (And.intro ?_ rfl)))))))))
  · rw [if_pos (Or.inl ((nI_eq (by omega) (by decide)).mp c))]
  · have c1 : ¬ nI (F k).1 = nI 192 := c
    have c3 : ¬ nI (F k).1 = nI 193 := c2
    rw [if_neg]
    rintro (h | h)
    · exact c1 (by rw [h])
    · exact c3 (by rw [h])
  · rw [if_pos]
    refine Or.inr ((nI_eq (by omega) (by decide)).mp ?_)
    have c3 : nI (F k).1 = nI 193 := c2
    exact c3
theorem m_canLeave {f : Nat} {fp2 : Option Nat} (h16 : 16 ≤ f) (hf1 : f ≤ 1024) (hrd : ga_rd μ (f - 4) 4 = ga_fp fp2) (hf : ∀ g, fp2 = some g → g + 8 ≤ 1024 ∧ ga_w μ (g + 4) ≤ ga_w μ g) : gx_call LL xs (d + 4) z_M_canLeave 0 0 [.ref 43] (gm_h pre n μ sp (some f) pc lp cl tk tc F gv) (fun r h => r = some (.int (ga_b (ga_cg μ (ga_rd μ (f - 16) 4) (ga_rd μ (f - 12) 4) fp2))) ∧ h = (gm_h pre n μ sp (some f) pc lp cl tk tc F gv)) := by
  have r1 := m_read (LL := LL) (xs := xs) (d := d + 2) (pre := pre) (n := n) (μ := μ) (sp := sp) (fo := some f) (pc := pc) (lp := lp) (cl := cl) (tk := tk) (tc := tc) (F := F) (gv := gv) (a := f - 16) (w := 4) (by omega)
  have r2 := m_read (LL := LL) (xs := xs) (d := d + 2) (pre := pre) (n := n) (μ := μ) (sp := sp) (fo := some f) (pc := pc) (lp := lp) (cl := cl) (tk := tk) (tc := tc) (F := F) (gv := gv) (a := f - 12) (w := 4) (by omega)
  have r3 := m_read (LL := LL) (xs := xs) (d := d + 2) (pre := pre) (n := n) (μ := μ) (sp := sp) (fo := some f) (pc := pc) (lp := lp) (cl := cl) (tk := tk) (tc := tc) (F := F) (gv := gv) (a := f - 4) (w := 4) (by omega)
  rw [hrd] at r3
  rw [← pk_sub (by omega)] at r1 r2 r3
  exact gs_M_canLeave _ (gx_run 24 (And.intro ⟨_, rfl⟩ (gx_c1 (gx_le8 rfl) r1 (And.intro ⟨_, rfl⟩ (gx_c1 (gx_le8 rfl) r2 (And.intro ⟨_, rfl⟩ (gx_c1 (gx_le8 rfl) r3 (And.intro ⟨_, rfl⟩ (gx_c1 (gx_le8 rfl) (m_canGo _ _ hf) (by
    cases ga_cg μ (ga_rd μ (f - 16) 4) (ga_rd μ (f - 12) 4) fp2 with
    | true => exact And.intro (Or.inr rfl) (And.intro rfl rfl)
    | false => exact And.intro (Or.inl rfl) (And.intro rfl rfl)))))))))))
theorem m_leaves (v : Int32) {f c : Nat} {fp2 : Option Nat} (h16 : 16 ≤ f) (he : f ≤ sp) (hs : sp ≤ 1024) (hrd : ga_rd μ (f - 4) 4 = ga_fp fp2) (hf : ∀ g, fp2 = some g → g + 8 ≤ 1024 ∧ ga_w μ (g + 4) ≤ ga_w μ g ∧ g + ga_w μ g ≤ 1024) (hcg : ga_cg μ (ga_rd μ (f - 16) 4) (ga_rd μ (f - 12) 4) fp2 = true)
    (hlow : ∀ c', c = c' + 1 → tk c' < f) (hcc : c ≤ tc) (htc : tc ≤ 64) (hi : ∀ i, c ≤ i → i < tc → f ≤ tk i ∧ tk i < 2147483648) :
    gx_call LL xs (d + 4) z_M_leaves 0 0 [.ref 43, .int v] (gm_h pre n μ sp (some f) pc lp cl tk tc F gv) (fun r h => r = some (.int (ga_fp fp2)) ∧ h = (gm_h pre n (ga_g1 μ (f - 16) fp2 (ga_rd μ (f - 16) 4) (ga_rd μ (f - 12) 4) v) (ga_g2 (f - 16) (ga_rd μ (f - 16) 4)) fp2 (ga_rd μ (f - 8) 4) lp (ga_g3 cl (ga_rd μ (f - 16) 4) (ga_rd μ (f - 12) 4) v) tk c F gv)) := by
  refine gs_M_leaves _ _ (gx_run 5 ?_)
  show gx_E _ _ _ _ _ 5 [some (.ref 43), some (.int v), some (.int (nI f - nI 16))] [] (gm_h pre n μ sp (some f) pc lp cl tk tc F gv) _ _
  rw [pk_sub h16]
  have r0 := m_drop (LL := LL) (xs := xs) (d := d + 2) (pre := pre) (n := n) (μ := μ) (sp := sp) (fo := some f) (pc := pc) (lp := lp) (cl := cl) (tk := tk) (tc := tc) (F := F) (gv := gv) (p := f) (c := c) (by omega) hlow hcc htc hi
  have r1 := m_read (LL := LL) (xs := xs) (d := d + 2) (pre := pre) (n := n) (μ := μ) (sp := f - 16) (fo := some f) (pc := pc) (lp := lp) (cl := cl) (tk := tk) (tc := c) (F := F) (gv := gv) (a := f - 8) (w := 4) (by omega)
  have r2 := m_read (LL := LL) (xs := xs) (d := d + 2) (pre := pre) (n := n) (μ := μ) (sp := f - 16) (fo := some f) (pc := ga_rd μ (f - 8) 4) (lp := lp) (cl := cl) (tk := tk) (tc := c) (F := F) (gv := gv) (a := f - 4) (w := 4) (by omega)
  have r3 := m_read (LL := LL) (xs := xs) (d := d + 2) (pre := pre) (n := n) (μ := μ) (sp := f - 16) (fo := fp2) (pc := ga_rd μ (f - 8) 4) (lp := lp) (cl := cl) (tk := tk) (tc := c) (F := F) (gv := gv) (a := f - 16) (w := 4) (by omega)
  have r4 := m_read (LL := LL) (xs := xs) (d := d + 2) (pre := pre) (n := n) (μ := μ) (sp := f - 16) (fo := fp2) (pc := ga_rd μ (f - 8) 4) (lp := lp) (cl := cl) (tk := tk) (tc := c) (F := F) (gv := gv) (a := f - 12) (w := 4) (by omega)
  have r5 := m_go (LL := LL) (xs := xs) (d := d) (pre := pre) (n := n) (μ := μ) (sp := f - 16) (fo := fp2) (pc := ga_rd μ (f - 8) 4) (lp := lp) (cl := cl) (tk := tk) (tc := c) (F := F) (gv := gv) (ga_rd μ (f - 16) 4) (ga_rd μ (f - 12) 4) v (by omega) (fun g h => ⟨(hf g h).1, (hf g h).2.2⟩) hcg (fun _ => by omega)
  rw [show nI (f - 8) = nI (f - 16) + nI 8 by rw [nI_add]; congr 1; omega] at r1
  rw [show nI (f - 4) = nI (f - 16) + nI 12 by rw [nI_add]; congr 1; omega, hrd] at r2
  rw [show nI (f - 12) = nI (f - 16) + nI 4 by rw [nI_add]; congr 1; omega] at r4
  exact gx_run 39 (And.intro ⟨_, rfl⟩ (gx_c1 (gx_le8 rfl) r0 (And.intro ⟨_, rfl⟩ (gx_c1 (gx_le8 rfl) r1 (And.intro ⟨_, rfl⟩ (gx_c1 (gx_le8 rfl) r2 (And.intro ⟨_, rfl⟩ (gx_c1 (gx_le8 rfl) r3 (And.intro ⟨_, rfl⟩ (gx_c1 (gx_le8 rfl) r4 (And.intro ⟨_, rfl⟩ (gx_c1 (gx_le8 rfl) r5 (And.intro rfl rfl)))))))))))))
theorem m_leave_n (v : Int32) : gx_call LL xs (d + 2) z_M_leave 0 0 [.ref 43, .int v] (gm_h pre n μ sp none pc lp cl tk tc F gv) (fun r h => r = some (.int (-(nI 16))) ∧ h = (gm_h pre n μ sp none pc lp cl tk tc F gv)) :=
  gs_M_leave _ _ (gx_run 3 (And.intro ⟨_, rfl⟩ (gx_c1 (gx_le8 rfl) m_hasFrame_n (And.intro (fun c => absurd rfl c) (fun _ => gx_run 3 (gx_c1 (gx_le8 rfl) m_f6 (And.intro rfl rfl)))))))
theorem m_leave_e (v : Int32) {f : Nat} {fp2 : Option Nat} (h16 : 16 ≤ f) (hf1 : f ≤ 1024) (hrd : ga_rd μ (f - 4) 4 = ga_fp fp2) (hf : ∀ g, fp2 = some g → g + 8 ≤ 1024 ∧ ga_w μ (g + 4) ≤ ga_w μ g) (hcg : ga_cg μ (ga_rd μ (f - 16) 4) (ga_rd μ (f - 12) 4) fp2 = false) :
    gx_call LL xs (d + 5) z_M_leave 0 0 [.ref 43, .int v] (gm_h pre n μ sp (some f) pc lp cl tk tc F gv) (fun r h => r = some (.int (-(nI 13))) ∧ h = (gm_h pre n μ sp (some f) pc lp cl tk tc F gv)) := by
  have c1 := m_canLeave (LL := LL) (xs := xs) (d := d) (pre := pre) (n := n) (μ := μ) (sp := sp) (pc := pc) (lp := lp) (cl := cl) (tk := tk) (tc := tc) (F := F) (gv := gv) h16 hf1 hrd hf
  rw [hcg] at c1
  exact gs_M_leave _ _ (gx_run 3 (And.intro ⟨_, rfl⟩ (gx_c1 (gx_le8 rfl) (m_hasFrame (by omega)) (And.intro (fun _ => gx_run 3 (And.intro ⟨_, rfl⟩ (gx_c1 (gx_le8 rfl) c1 (And.intro (fun _ => gx_run 3 (gx_c1 (gx_le8 rfl) m_f3 (And.intro rfl rfl))) (fun c => absurd rfl c))))) (fun c => absurd c (by decide))))))
theorem m_leave (v : Int32) {f : Nat} {fp2 : Option Nat} (h16 : 16 ≤ f) (hf1 : f ≤ 1024) (hrd : ga_rd μ (f - 4) 4 = ga_fp fp2) (hf : ∀ g, fp2 = some g → g + 8 ≤ 1024 ∧ ga_w μ (g + 4) ≤ ga_w μ g) (hcg : ga_cg μ (ga_rd μ (f - 16) 4) (ga_rd μ (f - 12) 4) fp2 = true) {r0 : Int32} {h0 : gx_H}
    (hc : gx_call LL xs (d + 4) z_M_leaves 0 0 [.ref 43, .int v] (gm_h pre n μ sp (some f) pc lp cl tk tc F gv) (fun r h => r = some (.int r0) ∧ h = h0)) :
    gx_call LL xs (d + 5) z_M_leave 0 0 [.ref 43, .int v] (gm_h pre n μ sp (some f) pc lp cl tk tc F gv) (fun r h => r = some (.int r0) ∧ h = h0) := by
  have c1 := m_canLeave (LL := LL) (xs := xs) (d := d) (pre := pre) (n := n) (μ := μ) (sp := sp) (pc := pc) (lp := lp) (cl := cl) (tk := tk) (tc := tc) (F := F) (gv := gv) h16 hf1 hrd hf
  rw [hcg] at c1
  exact gs_M_leave _ _ (gx_run 3 (And.intro ⟨_, rfl⟩ (gx_c1 (gx_le8 rfl) (m_hasFrame (by omega)) (And.intro (fun _ => gx_run 3 (And.intro ⟨_, rfl⟩ (gx_c1 (gx_le8 rfl) c1 (And.intro (fun c => absurd c (by decide)) (fun _ => gx_run 5 (And.intro ⟨_, rfl⟩ (gx_c1 (gx_le8 rfl) hc (And.intro rfl rfl)))))))) (fun c => absurd c (by decide))))))
theorem m_caught_b (way addr p : Int32) (hw : way < 0 ∨ nI 3 < way) : gx_call LL xs (d + 1) z_M_caught 0 0 [.ref 43, .int way, .int addr, .int p] (gm_h pre n μ sp fo pc lp cl tk tc F gv) (fun r h => r = some (.int (-(nI 1))) ∧ h = (gm_h pre n μ sp fo pc lp cl tk tc F gv)) :=
  gs_M_caught _ _ _ _ (gx_run 6 (And.intro (gx_le8 rfl) (And.intro (fun c => absurd c (ga_nx (by decide) hw)) (fun c => And.intro (fun z => absurd rfl z) (fun _ => gx_run 2 (And.intro rfl rfl))))))
theorem ga_wy {way : Int32} (hw : ¬ (way < 0 ∨ nI 3 < way)) : lN 0 ≤ way.toInt64 ∧ way.toInt64 ≤ lN 3 := (ga_i64 _ 3 (by decide)).mpr ⟨fun h => hw (Or.inl h), fun h => hw (Or.inr h)⟩
theorem m_caught_n (way addr p : Int32) (hw : ¬ (way < 0 ∨ nI 3 < way)) : gx_call LL xs (d + 2) z_M_caught 0 0 [.ref 43, .int way, .int addr, .int p] (gm_h pre n μ sp none pc lp cl tk tc F gv) (fun r h => r = some (.int (-(nI 16))) ∧ h = (gm_h pre n μ sp none pc lp cl tk tc F gv)) :=
  gs_M_caught _ _ _ _ (gx_run 6 (And.intro (gx_le8 rfl) (And.intro (fun c => And.intro (fun _ => gx_run 3 (And.intro ⟨_, rfl⟩ (gx_c1 (gx_le8 rfl) m_hasFrame_n (And.intro (fun c => absurd rfl c) (fun _ => gx_run 3 (gx_c1 (gx_le8 rfl) m_f6 (And.intro rfl rfl))))))) (fun z => absurd z (by decide))) (fun c => absurd (ga_wy hw) c))))
theorem m_caught_w (way addr p : Int32) {f : Nat} (hw : ¬ (way < 0 ∨ nI 3 < way)) (hf : f + 8 ≤ 1024) (hl : ga_w μ (f + 4) ≤ ga_w μ f) (hcg : ga_cg μ way addr (some f) = false) : gx_call LL xs (d + 4) z_M_caught 0 0 [.ref 43, .int way, .int addr, .int p] (gm_h pre n μ sp (some f) pc lp cl tk tc F gv) (fun r h => r = some (.int (-(nI 13))) ∧ h = (gm_h pre n μ sp (some f) pc lp cl tk tc F gv)) := by
  have c4 := m_canGo (LL := LL) (xs := xs) (d := d) (pre := pre) (n := n) (μ := μ) (sp := sp) (fo := some f) (pc := pc) (lp := lp) (cl := cl) (tk := tk) (tc := tc) (F := F) (gv := gv) way addr (fp2 := some f) (fun g h => by cases h; exact ⟨hf, hl⟩)
  rw [hcg] at c4
  exact gs_M_caught _ _ _ _ (gx_run 6 (And.intro (gx_le8 rfl) (And.intro (fun c => And.intro (fun _ => gx_run 3 (And.intro ⟨_, rfl⟩ (gx_c1 (gx_le8 rfl) (m_hasFrame (by omega)) (And.intro (fun _ => gx_run 7 (And.intro ⟨_, rfl⟩ (gx_c1 (gx_le8 rfl) c4 (And.intro (fun c => absurd rfl c) (fun _ => gx_run 3 (gx_c1 (gx_le8 rfl) m_f3 (And.intro rfl rfl))))))) (fun c => absurd c (by decide)))))) (fun z => absurd z (by decide))) (fun c => absurd (ga_wy hw) c))))
theorem m_caught_q (way addr p : Int32) {f : Nat} {Q : gx_Q} (hw : ¬ (way < 0 ∨ nI 3 < way)) (hf : f + 8 ≤ 1024) (hl : ga_w μ (f + 4) ≤ ga_w μ f) (hcg : ga_cg μ way addr (some f) = true) (hO : gx_E LL xs (gx_call LL xs (d + 3)) cd_M_caught Q 34 [some (.ref 43), some (.int way), some (.int addr), some (.int p), none] [.int (nI (if way = nI 3 then 4 else 0)), .int (nI (sp + 16))] (gm_h pre n μ sp (some f) pc lp cl tk tc F gv) 0 0) : gx_call LL xs (d + 4) z_M_caught 0 0 [.ref 43, .int way, .int addr, .int p] (gm_h pre n μ sp (some f) pc lp cl tk tc F gv) Q := by
  have c4 := m_canGo (LL := LL) (xs := xs) (d := d) (pre := pre) (n := n) (μ := μ) (sp := sp) (fo := some f) (pc := pc) (lp := lp) (cl := cl) (tk := tk) (tc := tc) (F := F) (gv := gv) way addr (fp2 := some f) (fun g h => by cases h; exact ⟨hf, hl⟩)
  rw [hcg] at c4
  rw [← nI_add] at hO
  refine gs_M_caught _ _ _ _ (gx_run 6 (And.intro (gx_le8 rfl) (And.intro (fun c => And.intro (fun _ => gx_run 3 (And.intro ⟨_, rfl⟩ (gx_c1 (gx_le8 rfl) (m_hasFrame (by omega)) (And.intro (fun _ => gx_run 7 (And.intro ⟨_, rfl⟩ (gx_c1 (gx_le8 rfl) c4 (And.intro (fun _ => gx_run 7 ?_) (fun c => absurd c (by decide)))))) (fun c => absurd c (by decide)))))) (fun z => absurd z (by decide))) (fun c => absurd (ga_wy hw) c))))
  by_cases c : way = nI 3
  · rw [if_pos c] at hO
    exact And.intro (fun z => absurd c z) (fun _ => gx_run 2 hO)
  · rw [if_neg c] at hO
    exact And.intro (fun _ => gx_run 1 hO) (fun z => absurd z c)
theorem m_caught_f (way addr p : Int32) {f : Nat} (hw : ¬ (way < 0 ∨ nI 3 < way)) (hf : f + 8 ≤ 1024) (hl : ga_w μ (f + 4) ≤ ga_w μ f) (hs : sp ≤ n) (hn : n ≤ 1024) (hcg : ga_cg μ way addr (some f) = true) (hfull : n < sp + 16 + (if way = nI 3 then 4 else 0)) : gx_call LL xs (d + 4) z_M_caught 0 0 [.ref 43, .int way, .int addr, .int p] (gm_h pre n μ sp (some f) pc lp cl tk tc F gv) (fun r h => r = some (.int (-(nI 15))) ∧ h = (gm_h pre n μ sp (some f) pc lp cl tk tc F gv)) := by
  have hb : (if way = nI 3 then 4 else 0) ≤ 4 := by split <;> omega
  exact m_caught_q way addr p hw hf hl hcg (gx_run 4 (And.intro (fun c => absurd c (by rw [nI_add]; exact nI_ge hfull (by omega))) (fun _ => gx_run 3 (gx_c1 (gx_le8 rfl) m_f5 (And.intro rfl rfl)))))
theorem m_caught (way addr p : Int32) {f : Nat} (hw : ¬ (way < 0 ∨ nI 3 < way)) (hf : f + 8 ≤ sp) (hfn : f + ga_w μ f ≤ sp) (hl : ga_w μ (f + 4) ≤ ga_w μ f) (hn : n ≤ 1024) (hcg : ga_cg μ way addr (some f) = true) (hfull : sp + 16 + (if way = nI 3 then 4 else 0) ≤ n) (htc : tc < 64) : gx_call LL xs (d + 4) z_M_caught 0 0 [.ref 43, .int way, .int addr, .int p] (gm_h pre n μ sp (some f) pc lp cl tk tc F gv)
    (fun r h => r = some (.int (nI (sp + 16))) ∧ h = (gm_h pre n (ga_g1 (ga_st μ sp way addr p (nI f)) (sp + 16) (some f) way addr (nI (sp + 16))) (ga_g2 (sp + 16) way) (some f) pc lp (ga_g3 cl way addr (nI (sp + 16))) (va_up tk tc (sp + 16)) (tc + 1) F gv)) := by
  have hb : (if way = nI 3 then 4 else 0) ≤ 4 := by split <;> omega
  have hs16 : sp + 16 ≤ 1024 := by omega
  have hout : ∀ i, i < sp → ga_st μ sp way addr p (nI f) i = μ i := fun i hi => ga_st_out (Or.inl hi)
  have w1 : ga_w (ga_st μ sp way addr p (nI f)) f = ga_w μ f := ga_w_cong fun i h1 h2 => hout i (by omega)
  have w2 : ga_w (ga_st μ sp way addr p (nI f)) (f + 4) = ga_w μ (f + 4) := ga_w_cong fun i h1 h2 => hout i (by omega)
  have hcg2 : ga_cg (ga_st μ sp way addr p (nI f)) way addr (some f) = true := by
    rw [← hcg]
    exact ga_cg_cong fun g h => by cases h; exact ⟨w1, w2⟩
  have c5 := m_stub (LL := LL) (xs := xs) (d := d) (pre := pre) (n := n) (μ := μ) (sp := sp) (fo := some f) (pc := pc) (lp := lp) (cl := cl) (tk := tk) (tc := tc) (F := F) (gv := gv) way addr p hs16
  have c7 := m_go (LL := LL) (xs := xs) (d := d) (pre := pre) (n := n) (μ := ga_st μ sp way addr p (nI f)) (sp := sp + 16) (fo := some f) (pc := pc) (lp := lp) (cl := cl) (tk := va_up tk tc (sp + 16)) (tc := tc + 1) (F := F) (gv := gv) way addr (nI (sp + 16)) hs16 (fun g h => by cases h; rw [w1]; exact ⟨by omega, by omega⟩) hcg2 (fun h => by rw [if_pos h] at hfull; omega)
  have e : (gm_h pre n (ga_st μ sp way addr p (nI f)) (sp + 16) (some f) pc lp cl (va_up tk tc (sp + 16)) (tc + 1) F gv) = ((gm_h pre n (ga_st μ sp way addr p (nI f)) (sp + 16) (some f) pc lp cl tk tc F gv).set 51 (.inl (0, 64, upd (fun i => nI (tk i)) tc (nI (sp + 16))))).set 43 (.inr (.inr (3, [.int (nI n), .ref 44, .int (nI (sp + 16)), .int (ga_fp (some f)), .int pc, .ref 45, .ref 46, .ref 47, .ref 48, .ref 49, .ref 50, .ref 51, .int (nI tc + nI 1), .int lp, .ref 52]))) := by
    rw [gm_byte, nI_add]
    rfl
  rw [e] at c7
  refine m_caught_q way addr p hw (by omega) hl hcg (gx_run 4 (And.intro (fun _ => ?_) (fun c => absurd (by rw [nI_add]; exact nI_le hfull (by omega)) c)))
  exact gx_run 27 (And.intro ⟨_, rfl⟩ (gx_c1 (gx_le8 rfl) c5 (gx_ar tc rfl htc (by decide) (And.intro ⟨_, rfl⟩ (gx_c1 (gx_le8 rfl) c7 (And.intro rfl rfl))))))
end GMF
