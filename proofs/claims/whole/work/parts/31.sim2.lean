/-! Both: returns, catches, throws, calls. -/
section GSN
variable {LL : Nat} {xs : Nat → Int32} {n : Nat} {μ : Nat → Nat} {sp : Nat} {pc lp : Int32} {cl : Nat → Int32} {tk : Nat → Nat} {F : Nat → ga_F} {tn gv : Nat → Int32} {M : ga_M}
theorem ga_fits {es : ga_M} {lim : Nat} (h : ga_mk μ lim es) (hl : lim ≤ n) : ∀ g, ga_top es = some g → g + 8 ≤ n ∧ ga_w μ (g + 4) ≤ ga_w μ g ∧ g + ga_w μ g ≤ n := fun g hg => by
  have := ga_mk_top h hg
  omega
theorem ga_lows {es : ga_M} {lim e : Nat} (h : ga_mk μ lim es) (ht : ga_tk tk es) (hl : lim < e) : ∀ c', ga_tc es = c' + 1 → tk c' < e := fun c' hc => by
  have := ga_tk_le h ht c' (by omega)
  omega
theorem s_leave (hI : ga_I n μ sp M tk F) (v : Int32) : ga_S LL xs z_G_leave z_M_leave [.int v] n μ sp M pc lp cl tk F tn gv := by
  obtain ⟨i1, i2, i3, i4, i5, i6, i7⟩ := hI
  have hI : ga_I n μ sp M tk F := ⟨i1, i2, i3, i4, i5, i6, i7⟩
  cases hf : ga_top M with
  | none => exact ga_same hI (fun tl => by rw [hf]; exact k_G_leave_n v) (fun pre => by rw [hf]; exact m_leave_n v)
  | some f =>
    have hlt := ga_mk_top i5 hf
    have hcnt := ga_tc_le i5
    have htl := ga_tk_le i5 i6
    obtain ⟨es, h1, h2, h3, h4, h5⟩ := ga_split_top i5 i6 hf
    have hn := ga_fits (n := n) h2 (by omega)
    have hm := ga_fits (n := 1024) h2 (by omega)
    by_cases hcg : ga_cg μ (ga_rd μ (f - 16) 4) (ga_rd μ (f - 12) 4) (ga_top es) = true
    · refine ⟨ga_fp (ga_top es), ga_g1 μ (f - 16) (ga_top es) (ga_rd μ (f - 16) 4) (ga_rd μ (f - 12) 4) v, ga_g2 (f - 16) (ga_rd μ (f - 16) 4), es, ga_rd μ (f - 8) 4, lp, ga_g3 cl (ga_rd μ (f - 16) 4) (ga_rd μ (f - 12) 4) v, tk, F, tn, gv, ⟨i1, i2, ga_g2_le (by omega) (fun _ => by omega), ga_g1_lt i4, ga_g_mk h2 (by omega) (ga_base_le h2) hcg, h3, i7⟩, fun tl => ?_, fun pre => ?_⟩
      · rw [hf]
        exact k_G_leave v (by omega) (k_G_goBack v (fp2 := ga_top es) (c := ga_tc es) hlt.1 (by omega) i3 i2 i4 h1 hn hcg (ga_lows h2 h3 (by omega)) h4 (by omega) (fun i a b => ⟨h5 i a b, by have := htl i b; omega⟩))
      · rw [hf]
        exact m_leave v hlt.1 (by omega) h1 (fun g hg => ⟨(hm g hg).1, (hm g hg).2.1⟩) hcg (m_leaves v (fp2 := ga_top es) (c := ga_tc es) hlt.1 (by omega) (by omega) h1 hm hcg (ga_lows h2 h3 (by omega)) h4 (by omega) (fun i a b => ⟨h5 i a b, by have := htl i b; omega⟩))
    · have hcg : ga_cg μ (ga_rd μ (f - 16) 4) (ga_rd μ (f - 12) 4) (ga_top es) = false := Bool.eq_false_iff.mpr hcg
      exact ga_same hI (fun tl => by rw [hf]; exact k_G_leave v (by omega) (k_G_goBack_e v hlt.1 (by omega) i2 i4 h1 (fun g hg => ⟨(hn g hg).1, (hn g hg).2.1⟩) hcg)) (fun pre => by rw [hf]; exact m_leave_e v hlt.1 (by omega) h1 (fun g hg => ⟨(hm g hg).1, (hm g hg).2.1⟩) hcg)
theorem s_thrown (hI : ga_I n μ sp M tk F) (x v : Int32) : ga_S LL xs z_G_thrown z_M_thrown [.int x, .int v] n μ sp M pc lp cl tk F tn gv := by
  obtain ⟨i1, i2, i3, i4, i5, i6, i7⟩ := hI
  have hI : ga_I n μ sp M tk F := ⟨i1, i2, i3, i4, i5, i6, i7⟩
  have hcnt := ga_tc_le i5
  have htl := ga_tk_le i5 i6
  by_cases hx : ∃ j, j < ga_tc M ∧ nI (tk j) = x
  · obtain ⟨j, hj, rfl⟩ := hx
    obtain ⟨es, h0, h1, h2, h3, h4, h5, h6⟩ := ga_split_tok i5 i6 hj
    have hn := ga_fits (n := n) h4 (by omega)
    have hm := ga_fits (n := 1024) h4 (by omega)
    by_cases hcg : ga_cg μ (ga_rd μ (tk j - 16) 4) (ga_rd μ (tk j - 12) 4) (ga_top es) = true
    · refine ⟨ga_fp (ga_top es), ga_g1 μ (tk j - 16) (ga_top es) (ga_rd μ (tk j - 16) 4) (ga_rd μ (tk j - 12) 4) v, ga_g2 (tk j - 16) (ga_rd μ (tk j - 16) 4), es, ga_rd μ (tk j - 8) 4, lp, ga_g3 cl (ga_rd μ (tk j - 16) 4) (ga_rd μ (tk j - 12) 4) v, tk, F, tn, gv, ⟨i1, i2, ga_g2_le (by omega) (fun _ => by omega), ga_g1_lt i4, ga_g_mk h4 (by omega) (ga_base_le h4) hcg, h5, i7⟩, fun tl => ?_, fun pre => ?_⟩
      · exact k_G_thrown v (by omega) (by omega) hj (k_G_goBack v (fp2 := ga_top es) (c := ga_tc es) h1 h2 i3 i2 i4 h3 hn hcg (ga_lows h4 h5 (by omega)) (by omega) (by omega) (fun i a b => ⟨h6 i (by omega) b, by have := htl i b; omega⟩))
      · exact m_thrown (fp2 := ga_top es) (c := ga_tc es) (by omega) hj rfl h1 h2 (by omega) h3 hm hcg (ga_lows h4 h5 (by omega)) (by omega) (fun i a b => ⟨h6 i (by omega) b, by have := htl i b; omega⟩)
    · have hcg : ga_cg μ (ga_rd μ (tk j - 16) 4) (ga_rd μ (tk j - 12) 4) (ga_top es) = false := Bool.eq_false_iff.mpr hcg
      exact ga_same hI (fun tl => k_G_thrown v (by omega) (by omega) hj (k_G_goBack_e v h1 (by omega) i2 i4 h3 (fun g hg => ⟨(hn g hg).1, (hn g hg).2.1⟩) hcg)) (fun pre => m_thrown_e (by omega) hj rfl h1 (by omega) h3 (fun g hg => ⟨(hm g hg).1, (hm g hg).2.1⟩) hcg)
  · have hx2 : ∀ j, j < ga_tc M → ¬ nI (tk j) = x := fun j hj e => hx ⟨j, hj, e⟩
    exact ga_same hI (fun tl => k_G_thrown_n x v (by omega) (by omega) hx2) (fun pre => m_thrown_n x v (by omega) hx2)
theorem s_caught (hI : ga_I n μ sp M tk F) (way addr p : Int32) : ga_S LL xs z_G_caught z_M_caught [.int way, .int addr, .int p] n μ sp M pc lp cl tk F tn gv := by
  obtain ⟨i1, i2, i3, i4, i5, i6, i7⟩ := hI
  have hI : ga_I n μ sp M tk F := ⟨i1, i2, i3, i4, i5, i6, i7⟩
  have hcnt := ga_tc_le i5
  by_cases hw : way < 0 ∨ nI 3 < way
  · exact ga_same hI (fun tl => k_G_caught_b way addr p hw) (fun pre => m_caught_b way addr p hw)
  · cases hf : ga_top M with
    | none => exact ga_same hI (fun tl => by rw [hf]; exact k_G_caught_n way addr p hw) (fun pre => by rw [hf]; exact m_caught_n way addr p hw)
    | some f =>
      have hlt := ga_mk_top i5 hf
      by_cases hcg : ga_cg μ way addr (some f) = true
      · by_cases hfull : n < sp + 16 + (if way = nI 3 then 4 else 0)
        · exact ga_same hI (fun tl => by rw [hf]; exact k_G_caught_f way addr p hw (by omega) hlt.2.2.1 i3 i2 i4 hcg hfull) (fun pre => by rw [hf]; exact m_caught_f way addr p hw (by omega) hlt.2.2.1 i3 i2 hcg hfull)
        · have hs16 : sp + 16 ≤ n := by omega
          have hout : ∀ i, i < sp → ga_st μ sp way addr p (nI f) i = μ i := fun i hi => ga_st_out (Or.inl hi)
          have w1 : ga_w (ga_st μ sp way addr p (nI f)) f = ga_w μ f := ga_w_cong fun i h1 h2 => hout i (by omega)
          have w2 : ga_w (ga_st μ sp way addr p (nI f)) (f + 4) = ga_w μ (f + 4) := ga_w_cong fun i h1 h2 => hout i (by omega)
          have hcg2 : ga_cg (ga_st μ sp way addr p (nI f)) way addr (ga_top ((false, sp + 16) :: M)) = true := by
            show ga_cg (ga_st μ sp way addr p (nI f)) way addr (ga_top M) = true
            rw [hf, ← hcg]
            exact ga_cg_cong fun g h => by cases h; exact ⟨w1, w2⟩
          have hmk2 : ga_mk (ga_st μ sp way addr p (nI f)) (sp + 16) ((false, sp + 16) :: M) := by
            refine ⟨by omega, Nat.le_refl _, (by rw [hf]; exact fun h => by cases h), ?_, ?_⟩
            · rw [show sp + 16 - 4 = sp + 12 by omega, ga_st_fp, hf]
              rfl
            · rw [show sp + 16 - 16 = sp by omega]
              exact ga_mk_cong i5 fun i hi => (hout i hi).symm
          have hG := fun tl => k_G_caught (LL := LL) (xs := xs) (d := 2) (n := n) (μ := μ) (sp := sp) (f := f) (pc := pc) (lp := lp) (cl := cl) (tk := tk) (tc := ga_tc M) (F := F) (tn := tn) (tl := tl) way addr p hw (by omega) (by omega) hlt.2.2.1 i2 i4 hcg (by omega) (by omega)
          have hM := fun pre => m_caught (LL := LL) (xs := xs) (d := 4) (pre := pre) (n := n) (μ := μ) (sp := sp) (f := f) (pc := pc) (lp := lp) (cl := cl) (tk := tk) (tc := ga_tc M) (F := F) (gv := gv) way addr p hw (by omega) (by omega) hlt.2.2.1 i2 hcg (by omega) (by omega)
          refine ⟨nI (sp + 16), ga_g1 (ga_st μ sp way addr p (nI f)) (sp + 16) (ga_top ((false, sp + 16) :: M)) way addr (nI (sp + 16)), ga_g2 (sp + 16) way, (false, sp + 16) :: M, pc, lp, ga_g3 cl way addr (nI (sp + 16)), va_up tk (ga_tc M) (sp + 16), F, tn, gv, ⟨i1, i2, ga_g2_le hs16 (fun h => by rw [if_pos h] at hfull; omega), ga_g1_lt (ga_st_lt i4), ga_g_mk hmk2 (by omega) (Nat.le_refl _) hcg2, ⟨va_up_self _ _ _, ga_tk_cong i6 fun i hi => (va_up_ne _ _ (by omega)).symm⟩, i7⟩, fun tl => ?_, fun pre => ?_⟩
          · have h := hG tl
            rw [← hf] at h
            exact h
          · have h := hM pre
            rw [← hf] at h
            exact h
      · have hcg : ga_cg μ way addr (some f) = false := Bool.eq_false_iff.mpr hcg
        exact ga_same hI (fun tl => by rw [hf]; exact k_G_caught_w way addr p hw (by omega) hlt.2.2.1 i2 i4 hcg) (fun pre => by rw [hf]; exact m_caught_w way addr p hw (by omega) hlt.2.2.1 hcg)
theorem ga_acc {f : ga_F} (hw : ga_wf f) (h : ¬ f.2.1 = 0) : f.2.1 = 1 ∨ f.2.1 = 2 ∨ f.2.1 = 3 := by
  have := hw.2.1
  omega
theorem s_call (hI : ga_I n μ sp M tk F) (x y way addr p : Int32) : ga_S LL xs z_G_call z_M_call [.int x, .int y, .int way, .int addr, .int p] n μ sp M pc lp cl tk F tn gv := by
  obtain ⟨i1, i2, i3, i4, i5, i6, i7⟩ := hI
  have hI : ga_I n μ sp M tk F := ⟨i1, i2, i3, i4, i5, i6, i7⟩
  have hvl := ga_vc_le i5
  by_cases hx : (x < 0 ∨ nI 12 ≤ x) ∨ y < 0 ∨ way < 0 ∨ nI 3 < way
  · exact ga_same hI (fun tl => k_G_call_b x y way addr p hx) (fun pre => m_call_b x y way addr p hx)
  · obtain ⟨k, hk, rfl⟩ := ga_k12 (fun z => hx (Or.inl z))
    obtain ⟨m, hm, rfl⟩ := nI_of (x := y) (fun z => hx (Or.inr (Or.inl z)))
    have hw : ¬ (way < 0 ∨ nI 3 < way) := fun z => hx (Or.inr (Or.inr z))
    have hwf := i7 k hk
    by_cases hfr : m = 0 ∨ ga_top M ≠ none
    · by_cases hu : ga_vc μ sp M < m
      · exact ga_same hI (fun tl => k_G_call_u way addr p i5 i6 i3 i2 i4 hk hm hw hfr hu) (fun pre => m_call_u way addr p i5 i6 (by omega) hk hm hw hfr hu)
      · have hu : m ≤ ga_vc μ sp M := by omega
        have hn := ga_fits (n := n) i5 i3
        have hm1 := ga_fits (n := 1024) i5 (by omega)
        by_cases ha : (F k).2.1 = 0
        · by_cases hh : (F k).1 = 192 ∨ (F k).1 = 193
          · by_cases hfull : n < sp - 4 * m + 16 + ga_room (F k) m
            · exact ga_same hI (fun tl => k_G_call_f way addr p i5 i6 i3 i2 i4 hk hwf hw hfr hu ha hh hfull) (fun pre => m_call_f way addr p i5 i6 i3 i2 hk hwf hw hfr hu ha hh hfull)
            · have hrd : ga_rd (ga_st μ (sp - 4 * m) way addr p (ga_fp (ga_top M))) (sp - 4 * m + 16 - 4) 4 = ga_fp (ga_top M) := by
                rw [show sp - 4 * m + 16 - 4 = sp - 4 * m + 12 by omega, ga_st_fp]
              have hmk2 : ga_mk (ga_st μ (sp - 4 * m) way addr p (ga_fp (ga_top M))) (sp - 4 * m + 16 - 16) M := ga_mk_low i5 (by omega) fun i hi => (ga_st_out (Or.inl (by omega))).symm
              exact ⟨nI (sp - 4 * m + 16), ga_en (F k) (ga_va μ sp) m (ga_st μ (sp - 4 * m) way addr p (ga_fp (ga_top M))) (sp - 4 * m + 16), sp - 4 * m + 16 + ga_room (F k) m, (true, sp - 4 * m + 16) :: M, pc, lp, cl, tk, F, ga_tv μ sp m tn, ga_tv μ sp m gv, ⟨i1, i2, by omega, ga_en_lt hwf (ga_st_lt i4), ga_en_mk hwf (by omega) hrd hmk2, i6, i7⟩, fun tl => k_G_call way addr p i5 i6 i3 i2 i4 hk hwf hw hfr hu ha hh (by omega), fun pre => m_call way addr p i5 i6 i2 i3 hk hwf hw hfr hu ha hh (by omega)⟩
          · exact ga_same hI (fun tl => k_G_call_h way addr p i5 i6 i3 i2 i4 hk hwf hw hfr hu ha hh) (fun pre => m_call_h way addr p i5 i6 (by omega) hk hwf hw hfr hu ha hh)
        · have ha := ga_acc hwf ha
          by_cases hcg : ga_cg μ way addr (ga_top M) = true
          · by_cases hfull : way = nI 3 ∧ n < sp - 4 * m + 4
            · obtain ⟨rfl, hfull⟩ := hfull
              exact ga_same hI (fun tl => k_G_call_a (nI 3) addr p i5 i6 i3 i2 i4 hk hw hfr hu ha (k_G_callAcc_f addr i2 i3 i4 (fun f h => ⟨(hn f h).1, (hn f h).2.1⟩) hcg (by omega) hfull)) (fun pre => m_call_k addr p i5 i6 i3 i2 hk hfr hu ha (fun f h => ⟨(hm1 f h).1, (hm1 f h).2.1⟩) hcg hfull)
            · have hfull : way = nI 3 → sp - 4 * m + 4 ≤ n := fun h => Nat.le_of_not_lt fun z => hfull ⟨h, z⟩
              exact ⟨nI 1, ga_g1 μ (sp - 4 * m) (ga_top M) way addr (ga_gb (F k).2.1 (ga_va μ sp) m), ga_g2 (sp - 4 * m) way, M, pc, lp, ga_g3 cl way addr (ga_gb (F k).2.1 (ga_va μ sp) m), tk, F, tn, ga_tv μ sp m gv, ⟨i1, i2, ga_g2_le (by omega) hfull, ga_g1_lt i4, ga_g_mk i5 (by omega) (by omega) hcg, i6, i7⟩, fun tl => k_G_call_a way addr p i5 i6 i3 i2 i4 hk hw hfr hu ha (k_G_callAcc way addr hk ha i2 i3 i4 hn hcg (by omega) hfull), fun pre => m_call_a way addr p i5 i6 i3 i2 hk hw hfr hu ha hm1 hcg hfull⟩
          · have hcg : ga_cg μ way addr (ga_top M) = false := Bool.eq_false_iff.mpr hcg
            exact ga_same hI (fun tl => k_G_call_a way addr p i5 i6 i3 i2 i4 hk hw hfr hu ha (k_G_callAcc_w way addr i2 i4 (fun f h => ⟨(hn f h).1, (hn f h).2.1⟩) hcg)) (fun pre => m_call_w way addr p i5 i6 (by omega) hk hw hfr hu ha (fun f h => ⟨(hm1 f h).1, (hm1 f h).2.1⟩) hcg)
    · have hf : ga_top M = none := Classical.byContradiction fun z => hfr (Or.inr z)
      have h1 : 0 < m := Nat.pos_of_ne_zero fun z => hfr (Or.inl z)
      exact ga_same hI (fun tl => by rw [hf]; exact k_G_call_n way addr p hk hm h1 hw) (fun pre => by rw [hf]; exact m_call_n way addr p hk hm h1 hw)
theorem s_tail (hI : ga_I n μ sp M tk F) (x y : Int32) : ga_S LL xs z_G_tail z_M_tail [.int x, .int y] n μ sp M pc lp cl tk F tn gv := by
  obtain ⟨i1, i2, i3, i4, i5, i6, i7⟩ := hI
  have hI : ga_I n μ sp M tk F := ⟨i1, i2, i3, i4, i5, i6, i7⟩
  have hvl := ga_vc_le i5
  by_cases hx : (x < 0 ∨ nI 12 ≤ x) ∨ y < 0
  · exact ga_same hI (fun tl => k_G_tail_b x y hx) (fun pre => m_tail_b x y hx)
  · obtain ⟨k, hk, rfl⟩ := ga_k12 (fun z => hx (Or.inl z))
    obtain ⟨m, hm, rfl⟩ := nI_of (x := y) (fun z => hx (Or.inr z))
    have hwf := i7 k hk
    cases hf : ga_top M with
    | none => exact ga_same hI (fun tl => by rw [hf]; exact k_G_tail_n hk hm) (fun pre => by rw [hf]; exact m_tail_n hk hm)
    | some f =>
      by_cases hu : ga_vc μ sp M < m
      · exact ga_same hI (fun tl => k_G_tail_u i5 i6 i3 i2 i4 hk hm hf hu) (fun pre => m_tail_u i5 i6 (by omega) hk hm hf hu)
      · have hu : m ≤ ga_vc μ sp M := by omega
        have hlt := ga_mk_top i5 hf
        have hbg := ga_base_ge i5 hf
        have hcnt := ga_tc_le i5
        have htl := ga_tk_le i5 i6
        obtain ⟨es, h1, h2, h3, h4, h5⟩ := ga_split_top i5 i6 hf
        have hn := ga_fits (n := n) h2 (by omega)
        have hm1 := ga_fits (n := 1024) h2 (by omega)
        by_cases ha : (F k).2.1 = 0
        · by_cases hh : (F k).1 = 192 ∨ (F k).1 = 193
          · by_cases hfull : n < f + ga_room (F k) m
            · exact ga_same hI (fun tl => k_G_tail_f i5 i6 i3 i2 i4 hk hwf hf hu ha hh hfull) (fun pre => m_tail_f i5 i6 i3 i2 hk hwf hf hu ha hh hfull)
            · exact ⟨nI f, ga_en (F k) (ga_va μ sp) m μ f, f + ga_room (F k) m, (true, f) :: es, pc, lp, cl, tk, F, ga_tv μ sp m tn, ga_tv μ sp m gv, ⟨i1, i2, by omega, ga_en_lt hwf i4, ga_en_mk hwf hlt.1 h1 h2, h3, i7⟩, fun tl => k_G_tail (c := ga_tc es) i5 i6 i3 i2 i4 hk hwf hf hu ha hh (by omega) (ga_lows h2 h3 (by omega)) h4 (fun i a b => ⟨h5 i a b, by have := htl i b; omega⟩) (by omega), fun pre => m_tail (c := ga_tc es) i5 i6 i3 i2 hk hwf hf hu ha hh (by omega) (ga_lows h2 h3 (by omega)) h4 (fun i a b => ⟨h5 i a b, by have := htl i b; omega⟩)⟩
          · exact ga_same hI (fun tl => k_G_tail_h i5 i6 i3 i2 i4 hk hwf hf hu ha hh) (fun pre => m_tail_h i5 i6 (by omega) hk hwf hf hu ha hh)
        · have ha := ga_acc hwf ha
          by_cases hcg : ga_cg μ (ga_rd μ (f - 16) 4) (ga_rd μ (f - 12) 4) (ga_top es) = true
          · refine ⟨ga_fp (ga_top es), ga_g1 μ (f - 16) (ga_top es) (ga_rd μ (f - 16) 4) (ga_rd μ (f - 12) 4) (ga_gb (F k).2.1 (ga_va μ sp) m), ga_g2 (f - 16) (ga_rd μ (f - 16) 4), es, ga_rd μ (f - 8) 4, lp, ga_g3 cl (ga_rd μ (f - 16) 4) (ga_rd μ (f - 12) 4) (ga_gb (F k).2.1 (ga_va μ sp) m), tk, F, tn, ga_tv μ sp m gv, ⟨i1, i2, ga_g2_le (by omega) (fun _ => by omega), ga_g1_lt i4, ga_g_mk h2 (by omega) (ga_base_le h2) hcg, h3, i7⟩, fun tl => ?_, fun pre => ?_⟩
            · exact k_G_tail_a i5 i6 i3 i2 i4 hk hf hu ha (k_G_goBack _ (fp2 := ga_top es) (c := ga_tc es) hlt.1 (by omega) i3 i2 i4 h1 hn hcg (ga_lows h2 h3 (by omega)) h4 (by omega) (fun i a b => ⟨h5 i a b, by have := htl i b; omega⟩))
            · refine m_tail_a i5 i6 (by omega) hk hf hu ha h1 (fun g hg => ⟨(hm1 g hg).1, (hm1 g hg).2.1⟩) hcg ?_
              rw [hf]
              exact m_leaves _ (fp2 := ga_top es) (c := ga_tc es) hlt.1 (by omega) (by omega) h1 hm1 hcg (ga_lows h2 h3 (by omega)) h4 (by omega) (fun i a b => ⟨h5 i a b, by have := htl i b; omega⟩)
          · have hcg : ga_cg μ (ga_rd μ (f - 16) 4) (ga_rd μ (f - 12) 4) (ga_top es) = false := Bool.eq_false_iff.mpr hcg
            exact ga_same hI (fun tl => k_G_tail_a i5 i6 i3 i2 i4 hk hf hu ha (k_G_goBack_e _ hlt.1 (by omega) i2 i4 h1 (fun g hg => ⟨(hn g hg).1, (hn g hg).2.1⟩) hcg)) (fun pre => m_tail_w i5 i6 (by omega) hk hf hu ha h1 (fun g hg => ⟨(hm1 g hg).1, (hm1 g hg).2.1⟩) hcg)
end GSN
