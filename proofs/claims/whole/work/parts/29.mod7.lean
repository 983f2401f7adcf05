/-! The reference: throws, calls, tail calls. -/
theorem ga_gb_cong {acc : Nat} {V W : Nat → Int32} : ∀ {m : Nat}, (∀ i, i < m → V i = W i) → ga_gb acc V m = ga_gb acc W m
  | 0, _ => rfl
  | m + 1, h => by
    unfold ga_gb
    rw [ga_gb_cong fun i hi => h i (by omega), h m (by omega)]
section GMG
variable {LL : Nat} {xs : Nat → Int32} {d : Nat} {pre : Nat → gx_A} {n : Nat} {μ : Nat → Nat} {sp : Nat} {fo : Option Nat} {pc lp : Int32} {cl : Nat → Int32} {tk : Nat → Nat} {tc : Nat} {F : Nat → ga_F} {gv : Nat → Int32} {k : Nat} {M : ga_M}
theorem m_thrown_0 {x v : Int32} {Q : gx_Q} (hc : tc ≤ 64) (hx : ∀ j, j < tc → ¬ nI (tk j) = x) (hO : ∀ w : Option Value, gx_E LL xs (gx_call LL xs d) cd_M_thrown Q 22 [some (.ref 43), some (.int x), some (.int v), some (.int (nI 0)), w, none, none, none] [] (gm_h pre n μ sp fo pc lp cl tk tc F gv) 0 0) : ∀ (q i : Nat), i + q = tc →
    gx_E LL xs (gx_call LL xs d) cd_M_thrown Q 4 [some (.ref 43), some (.int x), some (.int v), some (.int (nI 0)), some (.int (nI i)), none, none, none] [] (gm_h pre n μ sp fo pc lp cl tk tc F gv) 0 0 := by
  intro q
  induction q with
  | zero =>
    intro i hq
    obtain rfl : i = tc := by omega
    exact gx_run 4 (And.intro (fun _ => hO _) (fun c => absurd (nI_le (Nat.le_refl i) (by omega)) c))
  | succ q ih =>
    intro i hq
    have h9 := ih (i + 1) (by omega)
    rw [← nI_add i 1] at h9
    exact gx_run 4 (And.intro (fun c => absurd c (nI_ge (show i < tc by omega) (by omega))) (fun _ => gx_run 2 (And.intro (fun c => absurd rfl c) (fun _ => gx_run 6 (gx_ar i rfl (show i < 64 by omega) (by decide) (And.intro (fun _ => gx_run 4 h9) (fun c => absurd c (hx i (by omega)))))))))
theorem m_thrown_1 {x v : Int32} {Q : gx_Q} (hc : tc ≤ 64) (hO : ∀ w : Option Value, gx_E LL xs (gx_call LL xs d) cd_M_thrown Q 22 [some (.ref 43), some (.int x), some (.int v), some (.int (nI 1)), w, none, none, none] [] (gm_h pre n μ sp fo pc lp cl tk tc F gv) 0 0) : ∀ (q i : Nat), i + q = tc →
    gx_E LL xs (gx_call LL xs d) cd_M_thrown Q 4 [some (.ref 43), some (.int x), some (.int v), some (.int (nI 1)), some (.int (nI i)), none, none, none] [] (gm_h pre n μ sp fo pc lp cl tk tc F gv) 0 0 := by
  intro q
  induction q with
  | zero =>
    intro i hq
    obtain rfl : i = tc := by omega
    exact gx_run 4 (And.intro (fun _ => hO _) (fun c => absurd (nI_le (Nat.le_refl i) (by omega)) c))
  | succ q ih =>
    intro i hq
    have h9 := ih (i + 1) (by omega)
    rw [← nI_add i 1] at h9
    exact gx_run 4 (And.intro (fun c => absurd c (nI_ge (show i < tc by omega) (by omega))) (fun _ => gx_run 2 (And.intro (fun _ => gx_run 5 h9) (fun c => absurd c (by decide)))))
theorem m_thrown_2 {x v : Int32} {Q : gx_Q} {j : Nat} (hc : tc ≤ 64) (hj : j < tc) (hx : nI (tk j) = x) (hO : ∀ w : Option Value, gx_E LL xs (gx_call LL xs d) cd_M_thrown Q 22 [some (.ref 43), some (.int x), some (.int v), some (.int (nI 1)), w, none, none, none] [] (gm_h pre n μ sp fo pc lp cl tk tc F gv) 0 0) : ∀ (q i : Nat), i + q = j →
    gx_E LL xs (gx_call LL xs d) cd_M_thrown Q 4 [some (.ref 43), some (.int x), some (.int v), some (.int (nI 0)), some (.int (nI i)), none, none, none] [] (gm_h pre n μ sp fo pc lp cl tk tc F gv) 0 0 := by
  intro q
  induction q with
  | zero =>
    intro i hq
    obtain rfl : i = j := by omega
    have h9 := m_thrown_1 (LL := LL) (xs := xs) (d := d) (pre := pre) (n := n) (μ := μ) (sp := sp) (fo := fo) (pc := pc) (lp := lp) (cl := cl) (tk := tk) (tc := tc) (F := F) (gv := gv) hc hO (tc - (i + 1)) (i + 1) (by omega)
    rw [← nI_add i 1] at h9
    exact gx_run 4 (And.intro (fun c => absurd c (nI_ge (show i < tc by omega) (by omega))) (fun _ => gx_run 2 (And.intro (fun c => absurd rfl c) (fun _ => gx_run 6 (gx_ar i rfl (show i < 64 by omega) (by decide) (And.intro (fun c => absurd hx c) (fun _ => gx_run 5 h9)))))))
  | succ q ih =>
    intro i hq
    have h9 := ih (i + 1) (by omega)
    rw [← nI_add i 1] at h9
    by_cases hxi : nI (tk i) = x
    · have h8 := m_thrown_1 (LL := LL) (xs := xs) (d := d) (pre := pre) (n := n) (μ := μ) (sp := sp) (fo := fo) (pc := pc) (lp := lp) (cl := cl) (tk := tk) (tc := tc) (F := F) (gv := gv) hc hO (tc - (i + 1)) (i + 1) (by omega)
      rw [← nI_add i 1] at h8
      exact gx_run 4 (And.intro (fun c => absurd c (nI_ge (show i < tc by omega) (by omega))) (fun _ => gx_run 2 (And.intro (fun c => absurd rfl c) (fun _ => gx_run 6 (gx_ar i rfl (show i < 64 by omega) (by decide) (And.intro (fun c => absurd hxi c) (fun _ => gx_run 5 h8)))))))
    · exact gx_run 4 (And.intro (fun c => absurd c (nI_ge (show i < tc by omega) (by omega))) (fun _ => gx_run 2 (And.intro (fun c => absurd rfl c) (fun _ => gx_run 6 (gx_ar i rfl (show i < 64 by omega) (by decide) (And.intro (fun _ => gx_run 4 h9) (fun c => absurd c hxi)))))))
theorem m_thrown_n (x v : Int32) (hc : tc ≤ 64) (hx : ∀ j, j < tc → ¬ nI (tk j) = x) : gx_call LL xs (d + 2) z_M_thrown 0 0 [.ref 43, .int x, .int v] (gm_h pre n μ sp fo pc lp cl tk tc F gv) (fun r h => r = some (.int (-(nI 14))) ∧ h = (gm_h pre n μ sp fo pc lp cl tk tc F gv)) := by
  refine gs_M_thrown _ _ _ (gx_run 4 (m_thrown_0 hc hx (fun w => ?_) tc 0 (Nat.zero_add _)))
  exact gx_run 2 (And.intro (fun c => absurd rfl c) (fun _ => gx_run 3 (gx_c1 (gx_le8 rfl) m_f4 (And.intro rfl rfl))))
theorem m_thrown_q {v : Int32} {j t : Nat} {fp2 : Option Nat} {Q : gx_Q} (hc : tc ≤ 64) (hj : j < tc) (ht : tk j = t) (h16 : 16 ≤ t) (ht2 : t ≤ 1024) (hrd : ga_rd μ (t - 4) 4 = ga_fp fp2) (hf : ∀ g, fp2 = some g → g + 8 ≤ 1024 ∧ ga_w μ (g + 4) ≤ ga_w μ g)
    (hO : gx_E LL xs (gx_call LL xs (d + 3)) cd_M_thrown Q 55 [some (.ref 43), some (.int (nI t)), some (.int v), some (.int (nI 1)), some (.int (nI (t - 16))), some (.int (ga_rd μ (t - 16) 4)), some (.int (ga_rd μ (t - 12) 4)), some (.int (ga_fp fp2))] [.int (ga_b (ga_cg μ (ga_rd μ (t - 16) 4) (ga_rd μ (t - 12) 4) fp2))] (gm_h pre n μ sp fo pc lp cl tk tc F gv) 0 0) :
    gx_call LL xs (d + 4) z_M_thrown 0 0 [.ref 43, .int (nI t), .int v] (gm_h pre n μ sp fo pc lp cl tk tc F gv) Q := by
  have r1 := m_read (LL := LL) (xs := xs) (d := d + 2) (pre := pre) (n := n) (μ := μ) (sp := sp) (fo := fo) (pc := pc) (lp := lp) (cl := cl) (tk := tk) (tc := tc) (F := F) (gv := gv) (a := t - 16) (w := 4) (by omega)
  have r2 := m_read (LL := LL) (xs := xs) (d := d + 2) (pre := pre) (n := n) (μ := μ) (sp := sp) (fo := fo) (pc := pc) (lp := lp) (cl := cl) (tk := tk) (tc := tc) (F := F) (gv := gv) (a := t - 12) (w := 4) (by omega)
  have r3 := m_read (LL := LL) (xs := xs) (d := d + 2) (pre := pre) (n := n) (μ := μ) (sp := sp) (fo := fo) (pc := pc) (lp := lp) (cl := cl) (tk := tk) (tc := tc) (F := F) (gv := gv) (a := t - 4) (w := 4) (by omega)
  rw [show nI (t - 12) = nI (t - 16) + nI 4 by rw [nI_add]; congr 1; omega] at r2
  rw [show nI (t - 4) = nI (t - 16) + nI 12 by rw [nI_add]; congr 1; omega, hrd] at r3
  refine gs_M_thrown _ _ _ (gx_run 4 (m_thrown_2 hc hj (by rw [ht]) (fun w => gx_run 2 (And.intro (fun _ => gx_run 4 ?_) (fun c => absurd c (by decide)))) j 0 (Nat.zero_add _)))
  show gx_E _ _ _ _ _ 31 [some (.ref 43), some (.int (nI t)), some (.int v), some (.int (nI 1)), some (.int (nI t - nI 16)), none, none, none] [] (gm_h pre n μ sp fo pc lp cl tk tc F gv) _ _
  rw [pk_sub h16]
  exact gx_run 24 (And.intro ⟨_, rfl⟩ (gx_c1 (gx_le8 rfl) r1 (And.intro ⟨_, rfl⟩ (gx_c1 (gx_le8 rfl) r2 (And.intro ⟨_, rfl⟩ (gx_c1 (gx_le8 rfl) r3 (And.intro ⟨_, rfl⟩ (gx_c1 (gx_le8 rfl) (m_canGo _ _ hf) hO))))))))
theorem m_thrown_e {v : Int32} {j t : Nat} {fp2 : Option Nat} (hc : tc ≤ 64) (hj : j < tc) (ht : tk j = t) (h16 : 16 ≤ t) (ht2 : t ≤ 1024) (hrd : ga_rd μ (t - 4) 4 = ga_fp fp2) (hf : ∀ g, fp2 = some g → g + 8 ≤ 1024 ∧ ga_w μ (g + 4) ≤ ga_w μ g) (hcg : ga_cg μ (ga_rd μ (t - 16) 4) (ga_rd μ (t - 12) 4) fp2 = false) :
    gx_call LL xs (d + 4) z_M_thrown 0 0 [.ref 43, .int (nI t), .int v] (gm_h pre n μ sp fo pc lp cl tk tc F gv) (fun r h => r = some (.int (-(nI 13))) ∧ h = (gm_h pre n μ sp fo pc lp cl tk tc F gv)) := by
  refine m_thrown_q hc hj ht h16 ht2 hrd hf ?_
  rw [hcg]
  exact gx_run 1 (And.intro (fun c => absurd rfl c) (fun _ => gx_run 3 (gx_c1 (gx_le8 rfl) m_f3 (And.intro rfl rfl))))
theorem m_thrown {v : Int32} {j t c : Nat} {fp2 : Option Nat} (hc : tc ≤ 64) (hj : j < tc) (ht : tk j = t) (h16 : 16 ≤ t) (ht2 : t ≤ sp) (hs : sp ≤ 1024) (hrd : ga_rd μ (t - 4) 4 = ga_fp fp2) (hf : ∀ g, fp2 = some g → g + 8 ≤ 1024 ∧ ga_w μ (g + 4) ≤ ga_w μ g ∧ g + ga_w μ g ≤ 1024) (hcg : ga_cg μ (ga_rd μ (t - 16) 4) (ga_rd μ (t - 12) 4) fp2 = true)
    (hlow : ∀ c', c = c' + 1 → tk c' < t) (hcc : c ≤ tc) (hi : ∀ i, c ≤ i → i < tc → t ≤ tk i ∧ tk i < 2147483648) :
    gx_call LL xs (d + 4) z_M_thrown 0 0 [.ref 43, .int (nI t), .int v] (gm_h pre n μ sp fo pc lp cl tk tc F gv) (fun r h => r = some (.int (ga_fp fp2)) ∧ h = (gm_h pre n (ga_g1 μ (t - 16) fp2 (ga_rd μ (t - 16) 4) (ga_rd μ (t - 12) 4) v) (ga_g2 (t - 16) (ga_rd μ (t - 16) 4)) fp2 (ga_rd μ (t - 8) 4) lp (ga_g3 cl (ga_rd μ (t - 16) 4) (ga_rd μ (t - 12) 4) v) tk c F gv)) := by
  refine m_thrown_q hc hj ht h16 (by omega) hrd (fun g h => ⟨(hf g h).1, (hf g h).2.1⟩) ?_
  rw [hcg]
  have r0 := m_drop (LL := LL) (xs := xs) (d := d + 2) (pre := pre) (n := n) (μ := μ) (sp := sp) (fo := fo) (pc := pc) (lp := lp) (cl := cl) (tk := tk) (tc := tc) (F := F) (gv := gv) (p := t) (c := c) (by omega) hlow hcc hc hi
  have r1 := m_read (LL := LL) (xs := xs) (d := d + 2) (pre := pre) (n := n) (μ := μ) (sp := t - 16) (fo := fo) (pc := pc) (lp := lp) (cl := cl) (tk := tk) (tc := c) (F := F) (gv := gv) (a := t - 8) (w := 4) (by omega)
  have r5 := m_go (LL := LL) (xs := xs) (d := d) (pre := pre) (n := n) (μ := μ) (sp := t - 16) (fo := fp2) (pc := ga_rd μ (t - 8) 4) (lp := lp) (cl := cl) (tk := tk) (tc := c) (F := F) (gv := gv) (ga_rd μ (t - 16) 4) (ga_rd μ (t - 12) 4) v (by omega) (fun g h => ⟨(hf g h).1, (hf g h).2.2⟩) hcg (fun _ => by omega)
  rw [show nI (t - 8) = nI (t - 16) + nI 8 by rw [nI_add]; congr 1; omega] at r1
  refine gx_run 1 (And.intro (fun _ => gx_run 25 ?_) (fun c => absurd c (by decide)))
  exact And.intro ⟨_, rfl⟩ (gx_c1 (gx_le8 rfl) r0 (And.intro ⟨_, rfl⟩ (gx_c1 (gx_le8 rfl) r1 (And.intro ⟨_, rfl⟩ (gx_c1 (gx_le8 rfl) r5 (And.intro rfl rfl))))))
/-! call -/
theorem m_call_b (x y way addr p : Int32) (hx : (x < 0 ∨ nI 12 ≤ x) ∨ y < 0 ∨ way < 0 ∨ nI 3 < way) : gx_call LL xs (d + 2) z_M_call 0 0 [.ref 43, .int x, .int y, .int way, .int addr, .int p] (gm_h pre n μ sp fo pc lp cl tk tc F gv) (fun r h => r = some (.int (-(nI 1))) ∧ h = (gm_h pre n μ sp fo pc lp cl tk tc F gv)) := by
  by_cases h : x < 0 ∨ nI 12 ≤ x
  · exact gs_M_call _ _ _ _ _ _ (gx_run 3 (gx_c1 (gx_le8 rfl) (m_isFunction_f h) (And.intro (fun _ => gx_run 2 (And.intro rfl rfl)) (fun c => absurd rfl c))))
  · have hx2 := hx.resolve_left h
    rcases pk_ix x (n := 12) (by decide) with c | c | ⟨k, hk, rfl⟩
    · exact absurd (Or.inl c) h
    · exact absurd (Or.inr c) h
    · refine gs_M_call _ _ _ _ _ _ (gx_run 3 (gx_c1 (gx_le8 rfl) (m_isFunction_t hk) (And.intro (fun c => absurd c (by decide)) (fun _ => gx_run 2 (And.intro (fun _ => gx_run 2 (And.intro rfl rfl)) (fun c1 => gx_run 6 (And.intro (gx_le8 rfl) (And.intro (fun c => absurd c (ga_nx (by decide) ?_)) (fun c => And.intro (fun z => absurd rfl z) (fun _ => gx_run 2 (And.intro rfl rfl)))))))))))
      rcases hx2 with h2 | h2 | h2
      · exact absurd h2 c1
      · exact Or.inl h2
      · exact Or.inr h2
theorem m_call_p {m : Nat} {Q : gx_Q} (way addr p : Int32) (hk : k < 12) (hm : m < 2147483648) (hw : ¬ (way < 0 ∨ nI 3 < way)) (hO : gx_E LL xs (gx_call LL xs (d + 1)) cd_M_call Q 13 [some (.ref 43), some (.int (nI k)), some (.int (nI m)), some (.int way), some (.int addr), some (.int p)] [] (gm_h pre n μ sp fo pc lp cl tk tc F gv) 0 0) :
    gx_call LL xs (d + 2) z_M_call 0 0 [.ref 43, .int (nI k), .int (nI m), .int way, .int addr, .int p] (gm_h pre n μ sp fo pc lp cl tk tc F gv) Q :=
  gs_M_call _ _ _ _ _ _ (gx_run 3 (gx_c1 (gx_le8 rfl) (m_isFunction_t hk) (And.intro (fun c => absurd c (by decide)) (fun _ => gx_run 2 (And.intro (fun c => absurd c (nI_pos hm)) (fun c1 => gx_run 6 (And.intro (gx_le8 rfl) (And.intro (fun c => And.intro (fun _ => hO) (fun z => absurd z (by decide))) (fun c => absurd (ga_wy hw) c)))))))))
theorem m_call_n {m : Nat} (way addr p : Int32) (hk : k < 12) (hm : m < 2147483648) (h1 : 0 < m) (hw : ¬ (way < 0 ∨ nI 3 < way)) : gx_call LL xs (d + 2) z_M_call 0 0 [.ref 43, .int (nI k), .int (nI m), .int way, .int addr, .int p] (gm_h pre n μ sp none pc lp cl tk tc F gv) (fun r h => r = some (.int (-(nI 16))) ∧ h = (gm_h pre n μ sp none pc lp cl tk tc F gv)) :=
  m_call_p way addr p hk hm hw (gx_run 2 (And.intro (fun c => absurd c (nI_nle h1 hm)) (fun _ => gx_run 3 (And.intro ⟨_, rfl⟩ (gx_c1 (gx_le8 rfl) m_hasFrame_n (And.intro (fun c => absurd rfl c) (fun _ => gx_run 3 (gx_c1 (gx_le8 rfl) m_f6 (And.intro rfl rfl)))))))))
theorem m_call_v {m f : Nat} {Q : gx_Q} (way addr p : Int32) (hmk : ga_mk μ sp M) (htk : ga_tk tk M) (hs : sp ≤ 1024) (hk : k < 12) (hm : m < 2147483648) (hw : ¬ (way < 0 ∨ nI 3 < way)) (h1 : 0 < m) (hf : ga_top M = some f)
    (hO : gx_E LL xs (gx_call LL xs (d + 3)) cd_M_call Q 26 [some (.ref 43), some (.int (nI k)), some (.int (nI m)), some (.int way), some (.int addr), some (.int p)] [.int (nI (ga_vc μ sp M)), .int (nI m)] (gm_h pre n μ sp (ga_top M) pc lp cl tk (ga_tc M) F gv) 0 0) :
    gx_call LL xs (d + 4) z_M_call 0 0 [.ref 43, .int (nI k), .int (nI m), .int way, .int addr, .int p] (gm_h pre n μ sp (ga_top M) pc lp cl tk (ga_tc M) F gv) Q := by
  have hlt := ga_top_lt hmk hf
  have hvc := m_values (LL := LL) (xs := xs) (d := d) (pre := pre) (n := n) (pc := pc) (lp := lp) (cl := cl) (F := F) (gv := gv) hmk htk hs hf
  rw [hf] at hvc hO ⊢
  exact m_call_p way addr p hk hm hw (gx_run 2 (And.intro (fun c => absurd c (nI_nle h1 hm)) (fun _ => gx_run 3 (And.intro ⟨_, rfl⟩ (gx_c1 (gx_le8 rfl) (m_hasFrame (by omega)) (And.intro (fun _ => gx_run 2 (And.intro (fun c => absurd c (nI_nle h1 hm)) (fun _ => gx_run 3 (And.intro ⟨_, rfl⟩ (gx_c1 (gx_le8 rfl) hvc hO))))) (fun c => absurd c (by decide))))))))
theorem m_call_q {m : Nat} {Q : gx_Q} (way addr p : Int32) (hmk : ga_mk μ sp M) (htk : ga_tk tk M) (hs : sp ≤ 1024) (hk : k < 12) (hw : ¬ (way < 0 ∨ nI 3 < way)) (hfr : m = 0 ∨ ga_top M ≠ none) (hu : m ≤ ga_vc μ sp M)
    (hO : gx_E LL xs (gx_call LL xs (d + 3)) cd_M_call Q 30 [some (.ref 43), some (.int (nI k)), some (.int (nI m)), some (.int way), some (.int addr), some (.int p)] [] (gm_h pre n μ sp (ga_top M) pc lp cl tk (ga_tc M) F gv) 0 0) :
    gx_call LL xs (d + 4) z_M_call 0 0 [.ref 43, .int (nI k), .int (nI m), .int way, .int addr, .int p] (gm_h pre n μ sp (ga_top M) pc lp cl tk (ga_tc M) F gv) Q := by
  have hvl := ga_vc_le hmk
  by_cases h0 : m = 0
  · subst h0
    exact m_call_p way addr p hk (by decide) hw (gx_run 2 (And.intro (fun _ => gx_run 2 (And.intro (fun _ => hO) (fun c => absurd (by decide) c))) (fun c => absurd (by decide) c)))
  · cases hf : ga_top M with
    | none => exact absurd hf (hfr.resolve_left h0)
    | some f =>
      rw [← hf]
      exact m_call_v way addr p hmk htk hs hk (by omega) hw (by omega) hf (gx_run 1 (And.intro (fun _ => hO) (fun c => absurd (nI_le hu (by omega)) c)))
theorem m_call_u {m : Nat} (way addr p : Int32) (hmk : ga_mk μ sp M) (htk : ga_tk tk M) (hs : sp ≤ 1024) (hk : k < 12) (hm : m < 2147483648) (hw : ¬ (way < 0 ∨ nI 3 < way)) (hfr : m = 0 ∨ ga_top M ≠ none) (hu : ga_vc μ sp M < m) :
    gx_call LL xs (d + 4) z_M_call 0 0 [.ref 43, .int (nI k), .int (nI m), .int way, .int addr, .int p] (gm_h pre n μ sp (ga_top M) pc lp cl tk (ga_tc M) F gv) (fun r h => r = some (.int (-(nI 12))) ∧ h = (gm_h pre n μ sp (ga_top M) pc lp cl tk (ga_tc M) F gv)) := by
  cases hf : ga_top M with
  | none => exact absurd hf (hfr.resolve_left (by omega))
  | some f =>
    rw [← hf]
    exact m_call_v way addr p hmk htk hs hk hm hw (by omega) hf (gx_run 1 (And.intro (fun c => absurd c (nI_ge hu hm)) (fun _ => gx_run 3 (gx_c1 (gx_le8 rfl) m_f2 (And.intro rfl rfl)))))
theorem m_call_w {m : Nat} (way addr p : Int32) (hmk : ga_mk μ sp M) (htk : ga_tk tk M) (hs : sp ≤ 1024) (hk : k < 12) (hw : ¬ (way < 0 ∨ nI 3 < way)) (hfr : m = 0 ∨ ga_top M ≠ none) (hu : m ≤ ga_vc μ sp M) (ha : (F k).2.1 = 1 ∨ (F k).2.1 = 2 ∨ (F k).2.1 = 3) (hf : ∀ f, ga_top M = some f → f + 8 ≤ 1024 ∧ ga_w μ (f + 4) ≤ ga_w μ f) (hcg : ga_cg μ way addr (ga_top M) = false) :
    gx_call LL xs (d + 4) z_M_call 0 0 [.ref 43, .int (nI k), .int (nI m), .int way, .int addr, .int p] (gm_h pre n μ sp (ga_top M) pc lp cl tk (ga_tc M) F gv) (fun r h => r = some (.int (-(nI 13))) ∧ h = (gm_h pre n μ sp (ga_top M) pc lp cl tk (ga_tc M) F gv)) := by
  have c4 := m_canGo (LL := LL) (xs := xs) (d := d) (pre := pre) (n := n) (μ := μ) (sp := sp) (fo := ga_top M) (pc := pc) (lp := lp) (cl := cl) (tk := tk) (tc := ga_tc M) (F := F) (gv := gv) way addr (fp2 := ga_top M) hf
  rw [hcg] at c4
  exact m_call_q way addr p hmk htk hs hk hw hfr hu (gx_run 5 (gx_ar k rfl hk (by decide) (And.intro (fun c => absurd c (nI_nle (by omega) (by omega))) (fun _ => gx_run 7 (And.intro ⟨_, rfl⟩ (gx_c1 (gx_le8 rfl) c4 (And.intro (fun c => absurd rfl c) (fun _ => gx_run 3 (gx_c1 (gx_le8 rfl) m_f3 (And.intro rfl rfl))))))))))
theorem m_call_g {m : Nat} {Q : gx_Q} (way addr p : Int32) (hmk : ga_mk μ sp M) (htk : ga_tk tk M) (hs : sp ≤ 1024) (hk : k < 12) (hw : ¬ (way < 0 ∨ nI 3 < way)) (hfr : m = 0 ∨ ga_top M ≠ none) (hu : m ≤ ga_vc μ sp M) (ha : (F k).2.1 = 1 ∨ (F k).2.1 = 2 ∨ (F k).2.1 = 3) (hf : ∀ f, ga_top M = some f → f + 8 ≤ 1024 ∧ ga_w μ (f + 4) ≤ ga_w μ f) (hcg : ga_cg μ way addr (ga_top M) = true)
    (hO : gx_E LL xs (gx_call LL xs (d + 3)) cd_M_call Q 45 [some (.ref 43), some (.int (nI k)), some (.int (nI m)), some (.int way), some (.int addr), some (.int p)] [] (gm_h pre n μ sp (ga_top M) pc lp cl tk (ga_tc M) F gv) 0 0) :
    gx_call LL xs (d + 4) z_M_call 0 0 [.ref 43, .int (nI k), .int (nI m), .int way, .int addr, .int p] (gm_h pre n μ sp (ga_top M) pc lp cl tk (ga_tc M) F gv) Q := by
  have c4 := m_canGo (LL := LL) (xs := xs) (d := d) (pre := pre) (n := n) (μ := μ) (sp := sp) (fo := ga_top M) (pc := pc) (lp := lp) (cl := cl) (tk := tk) (tc := ga_tc M) (F := F) (gv := gv) way addr (fp2 := ga_top M) hf
  rw [hcg] at c4
  exact m_call_q way addr p hmk htk hs hk hw hfr hu (gx_run 5 (gx_ar k rfl hk (by decide) (And.intro (fun c => absurd c (nI_nle (by omega) (by omega))) (fun _ => gx_run 7 (And.intro ⟨_, rfl⟩ (gx_c1 (gx_le8 rfl) c4 (And.intro (fun _ => hO) (fun c => absurd c (by decide)))))))))
theorem m_call_k {m : Nat} (addr p : Int32) (hmk : ga_mk μ sp M) (htk : ga_tk tk M) (hs : sp ≤ n) (hn : n ≤ 1024) (hk : k < 12) (hfr : m = 0 ∨ ga_top M ≠ none) (hu : m ≤ ga_vc μ sp M) (ha : (F k).2.1 = 1 ∨ (F k).2.1 = 2 ∨ (F k).2.1 = 3) (hf : ∀ f, ga_top M = some f → f + 8 ≤ 1024 ∧ ga_w μ (f + 4) ≤ ga_w μ f) (hcg : ga_cg μ (nI 3) addr (ga_top M) = true) (hfull : n < sp - 4 * m + 4) :
    gx_call LL xs (d + 4) z_M_call 0 0 [.ref 43, .int (nI k), .int (nI m), .int (nI 3), .int addr, .int p] (gm_h pre n μ sp (ga_top M) pc lp cl tk (ga_tc M) F gv) (fun r h => r = some (.int (-(nI 15))) ∧ h = (gm_h pre n μ sp (ga_top M) pc lp cl tk (ga_tc M) F gv)) := by
  have hvl := ga_vc_le hmk
  exact m_call_g (nI 3) addr p hmk htk (by omega) hk (by decide) hfr hu ha hf hcg (gx_run 3 (And.intro (fun c => absurd rfl c) (fun _ => gx_run 11 (And.intro (fun c => absurd c (by rw [pk_mul, pk_sub (show 4 * m ≤ sp by omega), nI_add]; exact nI_ge hfull (by omega))) (fun _ => gx_run 3 (gx_c1 (gx_le8 rfl) m_f5 (And.intro rfl rfl)))))))
theorem m_call_a {m : Nat} (way addr p : Int32) (hmk : ga_mk μ sp M) (htk : ga_tk tk M) (hs : sp ≤ n) (hn : n ≤ 1024) (hk : k < 12) (hw : ¬ (way < 0 ∨ nI 3 < way)) (hfr : m = 0 ∨ ga_top M ≠ none) (hu : m ≤ ga_vc μ sp M) (ha : (F k).2.1 = 1 ∨ (F k).2.1 = 2 ∨ (F k).2.1 = 3) (hf : ∀ f, ga_top M = some f → f + 8 ≤ 1024 ∧ ga_w μ (f + 4) ≤ ga_w μ f ∧ f + ga_w μ f ≤ 1024) (hcg : ga_cg μ way addr (ga_top M) = true) (hfull : way = nI 3 → sp - 4 * m + 4 ≤ n) :
    gx_call LL xs (d + 4) z_M_call 0 0 [.ref 43, .int (nI k), .int (nI m), .int way, .int addr, .int p] (gm_h pre n μ sp (ga_top M) pc lp cl tk (ga_tc M) F gv) (fun r h => r = some (.int (nI 1)) ∧ h = (gm_h pre n (ga_g1 μ (sp - 4 * m) (ga_top M) way addr (ga_gb (F k).2.1 (ga_va μ sp) m)) (ga_g2 (sp - 4 * m) way) (ga_top M) pc lp (ga_g3 cl way addr (ga_gb (F k).2.1 (ga_va μ sp) m)) tk (ga_tc M) F (ga_tv μ sp m gv))) := by
  have hvl := ga_vc_le hmk
  have c1 := m_take (LL := LL) (xs := xs) (d := d + 1) (pre := pre) (n := n) (μ := μ) (sp := sp) (fo := ga_top M) (pc := pc) (lp := lp) (cl := cl) (tk := tk) (tc := ga_tc M) (F := F) (gv := gv) (m := m) (by omega) (by omega)
  have c2 := m_result (LL := LL) (xs := xs) (d := d + 2) (pre := pre) (n := n) (μ := μ) (sp := sp - 4 * m) (fo := ga_top M) (pc := pc) (lp := lp) (cl := cl) (tk := tk) (tc := ga_tc M) (F := F) (gv := ga_tv μ sp m gv) (m := m) (by omega) ha
  rw [ga_gb_cong (ga_tv_va (μ := μ) (sp := sp) (m := m) (tn := gv))] at c2
  have c3 := m_go (LL := LL) (xs := xs) (d := d) (pre := pre) (n := n) (μ := μ) (sp := sp - 4 * m) (fo := ga_top M) (pc := pc) (lp := lp) (cl := cl) (tk := tk) (tc := ga_tc M) (F := F) (gv := ga_tv μ sp m gv) way addr (ga_gb (F k).2.1 (ga_va μ sp) m) (by omega) (fun f h => ⟨(hf f h).1, (hf f h).2.2⟩) hcg (fun h => by have := hfull h; omega)
  have e : (gm_h pre n μ (sp - 4 * m) (ga_top M) pc lp cl tk (ga_tc M) F (ga_tv μ sp m gv)) = (gm_h pre n μ sp (ga_top M) pc lp cl tk (ga_tc M) F (ga_tv μ sp m gv)).set 43 (.inr (.inr (3, [.int (nI n), .ref 44, .int (nI sp - nI 4 * nI m), .int (ga_fp (ga_top M)), .int pc, .ref 45, .ref 46, .ref 47, .ref 48, .ref 49, .ref 50, .ref 51, .int (nI (ga_tc M)), .int lp, .ref 52]))) := by
    rw [pk_mul, pk_sub (by omega)]
    rfl
  have hO : gx_E LL xs (gx_call LL xs (d + 3)) cd_M_call (fun r h => r = some (.int (nI 1)) ∧ h = (gm_h pre n (ga_g1 μ (sp - 4 * m) (ga_top M) way addr (ga_gb (F k).2.1 (ga_va μ sp) m)) (ga_g2 (sp - 4 * m) way) (ga_top M) pc lp (ga_g3 cl way addr (ga_gb (F k).2.1 (ga_va μ sp) m)) tk (ga_tc M) F (ga_tv μ sp m gv))) 62 [some (.ref 43), some (.int (nI k)), some (.int (nI m)), some (.int way), some (.int addr), some (.int p)] [] (gm_h pre n μ sp (ga_top M) pc lp cl tk (ga_tc M) F gv) 0 0 := by
    have h9 : gx_E LL xs (gx_call LL xs (d + 3)) cd_M_call (fun r h => r = some (.int (nI 1)) ∧ h = (gm_h pre n (ga_g1 μ (sp - 4 * m) (ga_top M) way addr (ga_gb (F k).2.1 (ga_va μ sp) m)) (ga_g2 (sp - 4 * m) way) (ga_top M) pc lp (ga_g3 cl way addr (ga_gb (F k).2.1 (ga_va μ sp) m)) tk (ga_tc M) F (ga_tv μ sp m gv))) 73 [some (.ref 43), some (.int (nI k)), some (.int (nI m)), some (.int way), some (.int addr), some (.int p)] [] (gm_h pre n μ (sp - 4 * m) (ga_top M) pc lp cl tk (ga_tc M) F (ga_tv μ sp m gv)) 0 0 :=
      gx_run 13 (gx_ar k rfl hk (by decide) (And.intro ⟨_, rfl⟩ (gx_c1 (gx_le8 rfl) c2 (And.intro ⟨_, rfl⟩ (gx_c1 (gx_le8 rfl) c3 (And.intro rfl rfl))))))
    rw [e] at h9
    exact gx_run 11 (And.intro ⟨_, rfl⟩ (gx_c1 (gx_le8 rfl) c1 h9))
  refine m_call_g way addr p hmk htk (by omega) hk hw hfr hu ha (fun f h => ⟨(hf f h).1, (hf f h).2.1⟩) hcg (gx_run 3 (And.intro (fun _ => hO) (fun c => gx_run 11 (And.intro (fun _ => hO) (fun z => absurd ?_ z)))))
  rw [pk_mul, pk_sub (show 4 * m ≤ sp by omega), nI_add]
  exact nI_le (hfull c) (by omega)
theorem m_call_h {m : Nat} (way addr p : Int32) (hmk : ga_mk μ sp M) (htk : ga_tk tk M) (hs : sp ≤ 1024) (hk : k < 12) (hwf : ga_wf (F k)) (hw : ¬ (way < 0 ∨ nI 3 < way)) (hfr : m = 0 ∨ ga_top M ≠ none) (hu : m ≤ ga_vc μ sp M) (ha : (F k).2.1 = 0) (hh : ¬ ((F k).1 = 192 ∨ (F k).1 = 193)) :
    gx_call LL xs (d + 4) z_M_call 0 0 [.ref 43, .int (nI k), .int (nI m), .int way, .int addr, .int p] (gm_h pre n μ sp (ga_top M) pc lp cl tk (ga_tc M) F gv) (fun r h => r = some (.int (-(nI 11))) ∧ h = (gm_h pre n μ sp (ga_top M) pc lp cl tk (ga_tc M) F gv)) := by
  have c2 := m_hasHead (LL := LL) (xs := xs) (d := d + 2) (pre := pre) (n := n) (μ := μ) (sp := sp) (fo := ga_top M) (pc := pc) (lp := lp) (cl := cl) (tk := tk) (tc := ga_tc M) (F := F) (gv := gv) hk hwf.1
  rw [if_neg hh] at c2
  refine m_call_q way addr p hmk htk hs hk hw hfr hu (gx_run 5 (gx_ar k rfl hk (by decide) (And.intro (fun _ => ?_) (fun c => absurd (by show nI (F k).2.1 ≤ 0; rw [ha]; decide) c))))
  exact gx_run 4 (And.intro ⟨_, rfl⟩ (gx_c1 (gx_le8 rfl) c2 (And.intro (fun c => absurd rfl c) (fun _ => gx_run 3 (gx_c1 (gx_le8 rfl) m_f1 (And.intro rfl rfl))))))
theorem m_call_r {m : Nat} {Q : gx_Q} (way addr p : Int32) (hmk : ga_mk μ sp M) (htk : ga_tk tk M) (hs : sp ≤ 1024) (hk : k < 12) (hwf : ga_wf (F k)) (hw : ¬ (way < 0 ∨ nI 3 < way)) (hfr : m = 0 ∨ ga_top M ≠ none) (hu : m ≤ ga_vc μ sp M) (ha : (F k).2.1 = 0) (hh : (F k).1 = 192 ∨ (F k).1 = 193)
    (hO : gx_E LL xs (gx_call LL xs (d + 5)) cd_M_call Q 105 [some (.ref 43), some (.int (nI k)), some (.int (nI m)), some (.int way), some (.int addr), some (.int p)] [.int (nI (ga_room (F k) m)), .int (nI (sp - 4 * m + 16))] (gm_h pre n μ sp (ga_top M) pc lp cl tk (ga_tc M) F gv) 0 0) :
    gx_call LL xs (d + 6) z_M_call 0 0 [.ref 43, .int (nI k), .int (nI m), .int way, .int addr, .int p] (gm_h pre n μ sp (ga_top M) pc lp cl tk (ga_tc M) F gv) Q := by
  have hvl := ga_vc_le hmk
  have c2 := m_hasHead (LL := LL) (xs := xs) (d := d + 4) (pre := pre) (n := n) (μ := μ) (sp := sp) (fo := ga_top M) (pc := pc) (lp := lp) (cl := cl) (tk := tk) (tc := ga_tc M) (F := F) (gv := gv) hk hwf.1
  rw [if_pos hh] at c2
  rw [← nI_add, ← pk_sub (show 4 * m ≤ sp by omega), ← pk_mul] at hO
  refine m_call_q way addr p hmk htk hs hk hw hfr hu (gx_run 5 (gx_ar k rfl hk (by decide) (And.intro (fun _ => ?_) (fun c => absurd (by show nI (F k).2.1 ≤ 0; rw [ha]; decide) c))))
  exact gx_run 4 (And.intro ⟨_, rfl⟩ (gx_c1 (gx_le8 rfl) c2 (And.intro (fun _ => gx_run 12 (And.intro ⟨_, rfl⟩ (gx_c1 (gx_le8 rfl) (m_room hk hwf) hO))) (fun c => absurd c (by decide)))))
theorem m_call_f {m : Nat} (way addr p : Int32) (hmk : ga_mk μ sp M) (htk : ga_tk tk M) (hs : sp ≤ n) (hn : n ≤ 1024) (hk : k < 12) (hwf : ga_wf (F k)) (hw : ¬ (way < 0 ∨ nI 3 < way)) (hfr : m = 0 ∨ ga_top M ≠ none) (hu : m ≤ ga_vc μ sp M) (ha : (F k).2.1 = 0) (hh : (F k).1 = 192 ∨ (F k).1 = 193) (hfull : n < sp - 4 * m + 16 + ga_room (F k) m) :
    gx_call LL xs (d + 6) z_M_call 0 0 [.ref 43, .int (nI k), .int (nI m), .int way, .int addr, .int p] (gm_h pre n μ sp (ga_top M) pc lp cl tk (ga_tc M) F gv) (fun r h => r = some (.int (-(nI 15))) ∧ h = (gm_h pre n μ sp (ga_top M) pc lp cl tk (ga_tc M) F gv)) := by
  have hvl := ga_vc_le hmk
  have hrl := ga_room_le hwf (m := m)
  exact m_call_r way addr p hmk htk (by omega) hk hwf hw hfr hu ha hh (gx_run 4 (And.intro (fun c => absurd c (by rw [nI_add]; exact nI_ge hfull (by omega))) (fun _ => gx_run 3 (gx_c1 (gx_le8 rfl) m_f5 (And.intro rfl rfl)))))
theorem m_call {m : Nat} (way addr p : Int32) (hmk : ga_mk μ sp M) (htk : ga_tk tk M) (hn : n ≤ 1024) (hs : sp ≤ n) (hk : k < 12) (hwf : ga_wf (F k)) (hw : ¬ (way < 0 ∨ nI 3 < way)) (hfr : m = 0 ∨ ga_top M ≠ none) (hu : m ≤ ga_vc μ sp M) (ha : (F k).2.1 = 0) (hh : (F k).1 = 192 ∨ (F k).1 = 193) (hfull : sp - 4 * m + 16 + ga_room (F k) m ≤ n) :
    gx_call LL xs (d + 6) z_M_call 0 0 [.ref 43, .int (nI k), .int (nI m), .int way, .int addr, .int p] (gm_h pre n μ sp (ga_top M) pc lp cl tk (ga_tc M) F gv) (fun r h => r = some (.int (nI (sp - 4 * m + 16))) ∧ h = (gm_h pre n (ga_en (F k) (ga_va μ sp) m (ga_st μ (sp - 4 * m) way addr p (ga_fp (ga_top M))) (sp - 4 * m + 16)) (sp - 4 * m + 16 + ga_room (F k) m) (some (sp - 4 * m + 16)) pc lp cl tk (ga_tc M) F (ga_tv μ sp m gv))) := by
  have hvl := ga_vc_le hmk
  rw [← ga_en_cong (ga_tv_va (μ := μ) (sp := sp) (m := m) (tn := gv))]
  have c1 := m_take (LL := LL) (xs := xs) (d := d + 3) (pre := pre) (n := n) (μ := μ) (sp := sp) (fo := ga_top M) (pc := pc) (lp := lp) (cl := cl) (tk := tk) (tc := ga_tc M) (F := F) (gv := gv) (m := m) (by omega) (by omega)
  have c2 := m_stub (LL := LL) (xs := xs) (d := d + 2) (pre := pre) (n := n) (μ := μ) (sp := sp - 4 * m) (fo := ga_top M) (pc := pc) (lp := lp) (cl := cl) (tk := tk) (tc := ga_tc M) (F := F) (gv := ga_tv μ sp m gv) way addr p (by omega)
  have c3 := m_enter (LL := LL) (xs := xs) (d := d) (pre := pre) (n := n) (μ := ga_st μ (sp - 4 * m) way addr p (ga_fp (ga_top M))) (sp := sp - 4 * m + 16) (fo := ga_top M) (pc := pc) (lp := lp) (cl := cl) (tk := tk) (tc := ga_tc M) (F := F) (gv := ga_tv μ sp m gv) (m := m) hk hwf hh (by omega) (by omega)
  have e : (gm_h pre n μ (sp - 4 * m) (ga_top M) pc lp cl tk (ga_tc M) F (ga_tv μ sp m gv)) = (gm_h pre n μ sp (ga_top M) pc lp cl tk (ga_tc M) F (ga_tv μ sp m gv)).set 43 (.inr (.inr (3, [.int (nI n), .ref 44, .int (nI sp - nI 4 * nI m), .int (ga_fp (ga_top M)), .int pc, .ref 45, .ref 46, .ref 47, .ref 48, .ref 49, .ref 50, .ref 51, .int (nI (ga_tc M)), .int lp, .ref 52]))) := by
    rw [pk_mul, pk_sub (by omega)]
    rfl
  rw [e] at c2
  refine m_call_r way addr p hmk htk (by omega) hk hwf hw hfr hu ha hh (gx_run 4 (And.intro (fun _ => ?_) (fun c => absurd (by rw [nI_add]; exact nI_le hfull (by omega)) c)))
  exact gx_run 23 (And.intro ⟨_, rfl⟩ (gx_c1 (gx_le8 rfl) c1 (And.intro ⟨_, rfl⟩ (gx_c1 (gx_le8 rfl) c2 (And.intro ⟨_, rfl⟩ (gx_c1 (gx_le8 rfl) c3 (And.intro rfl rfl)))))))
/-! tail -/
theorem m_tail_b (x y : Int32) (hx : (x < 0 ∨ nI 12 ≤ x) ∨ y < 0) : gx_call LL xs (d + 2) z_M_tail 0 0 [.ref 43, .int x, .int y] (gm_h pre n μ sp fo pc lp cl tk tc F gv) (fun r h => r = some (.int (-(nI 1))) ∧ h = (gm_h pre n μ sp fo pc lp cl tk tc F gv)) := by
  by_cases h : x < 0 ∨ nI 12 ≤ x
  · exact gs_M_tail _ _ _ (gx_run 3 (gx_c1 (gx_le8 rfl) (m_isFunction_f h) (And.intro (fun _ => gx_run 2 (And.intro rfl rfl)) (fun c => absurd rfl c))))
  · rcases pk_ix x (n := 12) (by decide) with c | c | ⟨k, hk, rfl⟩
    · exact absurd (Or.inl c) h
    · exact absurd (Or.inr c) h
    · exact gs_M_tail _ _ _ (gx_run 3 (gx_c1 (gx_le8 rfl) (m_isFunction_t hk) (And.intro (fun c => absurd c (by decide)) (fun _ => gx_run 2 (And.intro (fun c1 => absurd (hx.resolve_left h) (Int32.not_lt.mpr c1)) (fun _ => gx_run 2 (And.intro rfl rfl)))))))
theorem m_tail_n {m : Nat} (hk : k < 12) (hm : m < 2147483648) : gx_call LL xs (d + 2) z_M_tail 0 0 [.ref 43, .int (nI k), .int (nI m)] (gm_h pre n μ sp none pc lp cl tk tc F gv) (fun r h => r = some (.int (-(nI 16))) ∧ h = (gm_h pre n μ sp none pc lp cl tk tc F gv)) :=
  gs_M_tail _ _ _ (gx_run 3 (gx_c1 (gx_le8 rfl) (m_isFunction_t hk) (And.intro (fun c => absurd c (by decide)) (fun _ => gx_run 2 (And.intro (fun _ => gx_run 3 (And.intro ⟨_, rfl⟩ (gx_c1 (gx_le8 rfl) m_hasFrame_n (And.intro (fun c => absurd rfl c) (fun _ => gx_run 3 (gx_c1 (gx_le8 rfl) m_f6 (And.intro rfl rfl))))))) (fun c => absurd (nI_pos' (by omega)) c))))))
theorem m_tail_v {m f : Nat} {Q : gx_Q} (hmk : ga_mk μ sp M) (htk : ga_tk tk M) (hs : sp ≤ 1024) (hk : k < 12) (hm : m < 2147483648) (hf : ga_top M = some f)
    (hO : gx_E LL xs (gx_call LL xs (d + 3)) cd_M_tail Q 16 [some (.ref 43), some (.int (nI k)), some (.int (nI m))] [.int (nI (ga_vc μ sp M)), .int (nI m)] (gm_h pre n μ sp (ga_top M) pc lp cl tk (ga_tc M) F gv) 0 0) :
    gx_call LL xs (d + 4) z_M_tail 0 0 [.ref 43, .int (nI k), .int (nI m)] (gm_h pre n μ sp (ga_top M) pc lp cl tk (ga_tc M) F gv) Q := by
  have hlt := ga_top_lt hmk hf
  have hvc := m_values (LL := LL) (xs := xs) (d := d) (pre := pre) (n := n) (pc := pc) (lp := lp) (cl := cl) (F := F) (gv := gv) hmk htk hs hf
  rw [hf] at hvc hO ⊢
  exact gs_M_tail _ _ _ (gx_run 3 (gx_c1 (gx_le8 rfl) (m_isFunction_t hk) (And.intro (fun c => absurd c (by decide)) (fun _ => gx_run 2 (And.intro (fun _ => gx_run 3 (And.intro ⟨_, rfl⟩ (gx_c1 (gx_le8 rfl) (m_hasFrame (by omega)) (And.intro (fun _ => gx_run 3 (And.intro ⟨_, rfl⟩ (gx_c1 (gx_le8 rfl) hvc hO))) (fun c => absurd c (by decide)))))) (fun c => absurd (nI_pos' (by omega)) c))))))
theorem m_tail_u {m f : Nat} (hmk : ga_mk μ sp M) (htk : ga_tk tk M) (hs : sp ≤ 1024) (hk : k < 12) (hm : m < 2147483648) (hf : ga_top M = some f) (hu : ga_vc μ sp M < m) :
    gx_call LL xs (d + 4) z_M_tail 0 0 [.ref 43, .int (nI k), .int (nI m)] (gm_h pre n μ sp (ga_top M) pc lp cl tk (ga_tc M) F gv) (fun r h => r = some (.int (-(nI 12))) ∧ h = (gm_h pre n μ sp (ga_top M) pc lp cl tk (ga_tc M) F gv)) :=
  m_tail_v hmk htk hs hk hm hf (gx_run 1 (And.intro (fun c => absurd c (nI_ge hu hm)) (fun _ => gx_run 3 (gx_c1 (gx_le8 rfl) m_f2 (And.intro rfl rfl)))))
theorem m_tail_w {m f : Nat} {fp2 : Option Nat} (hmk : ga_mk μ sp M) (htk : ga_tk tk M) (hs : sp ≤ 1024) (hk : k < 12) (hf : ga_top M = some f) (hu : m ≤ ga_vc μ sp M) (ha : (F k).2.1 = 1 ∨ (F k).2.1 = 2 ∨ (F k).2.1 = 3) (hrd : ga_rd μ (f - 4) 4 = ga_fp fp2) (hf2 : ∀ g, fp2 = some g → g + 8 ≤ 1024 ∧ ga_w μ (g + 4) ≤ ga_w μ g) (hcg : ga_cg μ (ga_rd μ (f - 16) 4) (ga_rd μ (f - 12) 4) fp2 = false) :
    gx_call LL xs (d + 5) z_M_tail 0 0 [.ref 43, .int (nI k), .int (nI m)] (gm_h pre n μ sp (ga_top M) pc lp cl tk (ga_tc M) F gv) (fun r h => r = some (.int (-(nI 13))) ∧ h = (gm_h pre n μ sp (ga_top M) pc lp cl tk (ga_tc M) F gv)) := by
  have hvl := ga_vc_le hmk
  have hlt := ga_mk_top hmk hf
  have c1 := m_canLeave (LL := LL) (xs := xs) (d := d) (pre := pre) (n := n) (μ := μ) (sp := sp) (pc := pc) (lp := lp) (cl := cl) (tk := tk) (tc := ga_tc M) (F := F) (gv := gv) hlt.1 (by omega) hrd hf2
  rw [hcg] at c1
  refine m_tail_v hmk htk hs hk (by omega) hf (gx_run 1 (And.intro (fun _ => ?_) (fun c => absurd (nI_le hu (by omega)) c)))
  rw [hf]
  exact gx_run 5 (gx_ar k rfl hk (by decide) (And.intro (fun c => absurd c (nI_nle (by omega) (by omega))) (fun _ => gx_run 3 (And.intro ⟨_, rfl⟩ (gx_c1 (gx_le8 rfl) c1 (And.intro (fun c => absurd rfl c) (fun _ => gx_run 3 (gx_c1 (gx_le8 rfl) m_f3 (And.intro rfl rfl)))))))))
theorem m_tail_a {m f : Nat} {fp2 : Option Nat} (hmk : ga_mk μ sp M) (htk : ga_tk tk M) (hs : sp ≤ 1024) (hk : k < 12) (hf : ga_top M = some f) (hu : m ≤ ga_vc μ sp M) (ha : (F k).2.1 = 1 ∨ (F k).2.1 = 2 ∨ (F k).2.1 = 3) (hrd : ga_rd μ (f - 4) 4 = ga_fp fp2) (hf2 : ∀ g, fp2 = some g → g + 8 ≤ 1024 ∧ ga_w μ (g + 4) ≤ ga_w μ g) (hcg : ga_cg μ (ga_rd μ (f - 16) 4) (ga_rd μ (f - 12) 4) fp2 = true) {r0 : Int32} {h0 : gx_H}
    (hc : gx_call LL xs (d + 4) z_M_leaves 0 0 [.ref 43, .int (ga_gb (F k).2.1 (ga_va μ sp) m)] (gm_h pre n μ sp (ga_top M) pc lp cl tk (ga_tc M) F (ga_tv μ sp m gv)) (fun r h => r = some (.int r0) ∧ h = h0)) :
    gx_call LL xs (d + 5) z_M_tail 0 0 [.ref 43, .int (nI k), .int (nI m)] (gm_h pre n μ sp (ga_top M) pc lp cl tk (ga_tc M) F gv) (fun r h => r = some (.int r0) ∧ h = h0) := by
  have hvl := ga_vc_le hmk
  have hlt := ga_mk_top hmk hf
  have c1 := m_canLeave (LL := LL) (xs := xs) (d := d) (pre := pre) (n := n) (μ := μ) (sp := sp) (pc := pc) (lp := lp) (cl := cl) (tk := tk) (tc := ga_tc M) (F := F) (gv := gv) hlt.1 (by omega) hrd hf2
  rw [hcg] at c1
  have c2 := m_take (LL := LL) (xs := xs) (d := d + 2) (pre := pre) (n := n) (μ := μ) (sp := sp) (fo := some f) (pc := pc) (lp := lp) (cl := cl) (tk := tk) (tc := ga_tc M) (F := F) (gv := gv) (m := m) (by omega) (by omega)
  have c3 := m_result (LL := LL) (xs := xs) (d := d + 3) (pre := pre) (n := n) (μ := μ) (sp := sp) (fo := some f) (pc := pc) (lp := lp) (cl := cl) (tk := tk) (tc := ga_tc M) (F := F) (gv := ga_tv μ sp m gv) (m := m) (by omega) ha
  rw [ga_gb_cong (ga_tv_va (μ := μ) (sp := sp) (m := m) (tn := gv))] at c3
  refine m_tail_v hmk htk hs hk (by omega) hf (gx_run 1 (And.intro (fun _ => ?_) (fun c => absurd (nI_le hu (by omega)) c)))
  rw [hf] at hc ⊢
  refine gx_run 5 (gx_ar k rfl hk (by decide) (And.intro (fun c => absurd c (nI_nle (by omega) (by omega))) (fun _ => gx_run 3 (And.intro ⟨_, rfl⟩ (gx_c1 (gx_le8 rfl) c1 (And.intro (fun _ => ?_) (fun c => absurd c (by decide))))))))
  exact gx_run 13 (And.intro ⟨_, rfl⟩ (gx_c1 (gx_le8 rfl) c2 (gx_ar k rfl hk (by decide) (And.intro ⟨_, rfl⟩ (gx_c1 (gx_le8 rfl) c3 (And.intro ⟨_, rfl⟩ (gx_c1 (gx_le8 rfl) hc (And.intro rfl rfl))))))))
theorem m_tail_h {m f : Nat} (hmk : ga_mk μ sp M) (htk : ga_tk tk M) (hs : sp ≤ 1024) (hk : k < 12) (hwf : ga_wf (F k)) (hf : ga_top M = some f) (hu : m ≤ ga_vc μ sp M) (ha : (F k).2.1 = 0) (hh : ¬ ((F k).1 = 192 ∨ (F k).1 = 193)) :
    gx_call LL xs (d + 4) z_M_tail 0 0 [.ref 43, .int (nI k), .int (nI m)] (gm_h pre n μ sp (ga_top M) pc lp cl tk (ga_tc M) F gv) (fun r h => r = some (.int (-(nI 11))) ∧ h = (gm_h pre n μ sp (ga_top M) pc lp cl tk (ga_tc M) F gv)) := by
  have hvl := ga_vc_le hmk
  have c2 := m_hasHead (LL := LL) (xs := xs) (d := d + 2) (pre := pre) (n := n) (μ := μ) (sp := sp) (fo := ga_top M) (pc := pc) (lp := lp) (cl := cl) (tk := tk) (tc := ga_tc M) (F := F) (gv := gv) hk hwf.1
  rw [if_neg hh] at c2
  refine m_tail_v hmk htk hs hk (by omega) hf (gx_run 1 (And.intro (fun _ => ?_) (fun c => absurd (nI_le hu (by omega)) c)))
  exact gx_run 5 (gx_ar k rfl hk (by decide) (And.intro (fun _ => gx_run 4 (And.intro ⟨_, rfl⟩ (gx_c1 (gx_le8 rfl) c2 (And.intro (fun c => absurd rfl c) (fun _ => gx_run 3 (gx_c1 (gx_le8 rfl) m_f1 (And.intro rfl rfl))))))) (fun c => absurd (by show nI (F k).2.1 ≤ 0; rw [ha]; decide) c)))
theorem m_tail_r {m f : Nat} {Q : gx_Q} (hmk : ga_mk μ sp M) (htk : ga_tk tk M) (hs : sp ≤ 1024) (hk : k < 12) (hwf : ga_wf (F k)) (hf : ga_top M = some f) (hu : m ≤ ga_vc μ sp M) (ha : (F k).2.1 = 0) (hh : (F k).1 = 192 ∨ (F k).1 = 193)
    (hO : gx_E LL xs (gx_call LL xs (d + 5)) cd_M_tail Q 57 [some (.ref 43), some (.int (nI k)), some (.int (nI m))] [.int (nI (ga_room (F k) m)), .int (nI f)] (gm_h pre n μ sp (ga_top M) pc lp cl tk (ga_tc M) F gv) 0 0) :
    gx_call LL xs (d + 6) z_M_tail 0 0 [.ref 43, .int (nI k), .int (nI m)] (gm_h pre n μ sp (ga_top M) pc lp cl tk (ga_tc M) F gv) Q := by
  have hvl := ga_vc_le hmk
  have c2 := m_hasHead (LL := LL) (xs := xs) (d := d + 4) (pre := pre) (n := n) (μ := μ) (sp := sp) (fo := ga_top M) (pc := pc) (lp := lp) (cl := cl) (tk := tk) (tc := ga_tc M) (F := F) (gv := gv) hk hwf.1
  rw [if_pos hh] at c2
  refine m_tail_v hmk htk hs hk (by omega) hf (gx_run 1 (And.intro (fun _ => ?_) (fun c => absurd (nI_le hu (by omega)) c)))
  rw [hf] at c2 hO ⊢
  exact gx_run 5 (gx_ar k rfl hk (by decide) (And.intro (fun _ => gx_run 4 (And.intro ⟨_, rfl⟩ (gx_c1 (gx_le8 rfl) c2 (And.intro (fun _ => gx_run 6 (And.intro ⟨_, rfl⟩ (gx_c1 (gx_le8 rfl) (m_room hk hwf) hO))) (fun c => absurd c (by decide)))))) (fun c => absurd (by show nI (F k).2.1 ≤ 0; rw [ha]; decide) c)))
theorem m_tail_f {m f : Nat} (hmk : ga_mk μ sp M) (htk : ga_tk tk M) (hs : sp ≤ n) (hn : n ≤ 1024) (hk : k < 12) (hwf : ga_wf (F k)) (hf : ga_top M = some f) (hu : m ≤ ga_vc μ sp M) (ha : (F k).2.1 = 0) (hh : (F k).1 = 192 ∨ (F k).1 = 193) (hfull : n < f + ga_room (F k) m) :
    gx_call LL xs (d + 6) z_M_tail 0 0 [.ref 43, .int (nI k), .int (nI m)] (gm_h pre n μ sp (ga_top M) pc lp cl tk (ga_tc M) F gv) (fun r h => r = some (.int (-(nI 15))) ∧ h = (gm_h pre n μ sp (ga_top M) pc lp cl tk (ga_tc M) F gv)) := by
  have hvl := ga_vc_le hmk
  have hlt := ga_top_lt hmk hf
  have hrl := ga_room_le hwf (m := m)
  exact m_tail_r hmk htk (by omega) hk hwf hf hu ha hh (gx_run 4 (And.intro (fun c => absurd c (by rw [nI_add]; exact nI_ge hfull (by omega))) (fun _ => gx_run 3 (gx_c1 (gx_le8 rfl) m_f5 (And.intro rfl rfl)))))
theorem m_tail {m f c : Nat} (hmk : ga_mk μ sp M) (htk : ga_tk tk M) (hs : sp ≤ n) (hn : n ≤ 1024) (hk : k < 12) (hwf : ga_wf (F k)) (hf : ga_top M = some f) (hu : m ≤ ga_vc μ sp M) (ha : (F k).2.1 = 0) (hh : (F k).1 = 192 ∨ (F k).1 = 193) (hfull : f + ga_room (F k) m ≤ n)
    (hlow : ∀ c', c = c' + 1 → tk c' < f) (hcc : c ≤ ga_tc M) (hi : ∀ i, c ≤ i → i < ga_tc M → f ≤ tk i ∧ tk i < 2147483648) :
    gx_call LL xs (d + 6) z_M_tail 0 0 [.ref 43, .int (nI k), .int (nI m)] (gm_h pre n μ sp (ga_top M) pc lp cl tk (ga_tc M) F gv) (fun r h => r = some (.int (nI f)) ∧ h = (gm_h pre n (ga_en (F k) (ga_va μ sp) m μ f) (f + ga_room (F k) m) (some f) pc lp cl tk c F (ga_tv μ sp m gv))) := by
  have hvl := ga_vc_le hmk
  have hlt := ga_top_lt hmk hf
  have hcnt := ga_tc_le hmk
  rw [← ga_en_cong (ga_tv_va (μ := μ) (sp := sp) (m := m) (tn := gv))]
  refine m_tail_r hmk htk (by omega) hk hwf hf hu ha hh (gx_run 4 (And.intro (fun _ => ?_) (fun c => absurd (by rw [nI_add]; exact nI_le hfull (by omega)) c)))
  have c1 := m_take (LL := LL) (xs := xs) (d := d + 3) (pre := pre) (n := n) (μ := μ) (sp := sp) (fo := some f) (pc := pc) (lp := lp) (cl := cl) (tk := tk) (tc := ga_tc M) (F := F) (gv := gv) (m := m) (by omega) (by omega)
  have c2 := m_drop (LL := LL) (xs := xs) (d := d + 4) (pre := pre) (n := n) (μ := μ) (sp := sp) (fo := some f) (pc := pc) (lp := lp) (cl := cl) (tk := tk) (tc := ga_tc M) (F := F) (gv := ga_tv μ sp m gv) (p := f) (c := c) (by omega) hlow hcc (by omega) hi
  have c3 := m_enter (LL := LL) (xs := xs) (d := d) (pre := pre) (n := n) (μ := μ) (sp := f) (fo := some f) (pc := pc) (lp := lp) (cl := cl) (tk := tk) (tc := c) (F := F) (gv := ga_tv μ sp m gv) (m := m) hk hwf hh (by omega) (by omega)
  rw [hf]
  exact gx_run 18 (And.intro ⟨_, rfl⟩ (gx_c1 (gx_le8 rfl) c1 (And.intro ⟨_, rfl⟩ (gx_c1 (gx_le8 rfl) c2 (And.intro ⟨_, rfl⟩ (gx_c1 (gx_le8 rfl) c3 (And.intro rfl rfl)))))))
end GMG
