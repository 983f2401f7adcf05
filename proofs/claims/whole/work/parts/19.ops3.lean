/-! Functions; stubs, returns, throws. -/
/-- what an accelerated function gives for values V 0 .. -/
def ga_gb (acc : Nat) (V : Nat → Int32) : Nat → Int32
  | 0 => nI 0
  | i + 1 => if acc = 1 then ga_gb acc V i + V i else if acc = 2 then (if i = 0 then V i else ga_gb acc V i - V i) else ga_gb acc V i + (if 0 < V i then nI 1 else nI 0)
/-- a stub -/
def ga_st (μ : Nat → Nat) (sp : Nat) (way addr pc fp : Int32) : Nat → Nat := ga_wr (ga_wr (ga_wr (ga_wr μ sp 4 way) (sp + 4) 4 addr) (sp + 8) 4 pc) (sp + 12) 4 fp
theorem ga_st_lt {μ : Nat → Nat} {sp : Nat} {way addr pc fp : Int32} (h : ∀ i, μ i < 256) : ∀ i, ga_st μ sp way addr pc fp i < 256 := ga_wr_lt (ga_wr_lt (ga_wr_lt (ga_wr_lt h)))
theorem ga_st_out {μ : Nat → Nat} {sp : Nat} {way addr pc fp : Int32} {i : Nat} (h : i < sp ∨ sp + 16 ≤ i) : ga_st μ sp way addr pc fp i = μ i := by
  unfold ga_st
  rw [ga_wr_out (by omega), ga_wr_out (by omega), ga_wr_out (by omega), ga_wr_out (by omega)]
theorem ga_V {μ : Nat → Nat} {sp : Nat} : (fun i => ga_rd μ (sp - 4 * (i + 1)) 4) = fun i => ga_rd μ (sp - 4 * (i + 1)) 4 := rfl
theorem ga_cg_cong {μ ν : Nat → Nat} {way addr : Int32} {fo : Option Nat} (h : ∀ f, fo = some f → ga_w μ f = ga_w ν f ∧ ga_w μ (f + 4) = ga_w ν (f + 4)) : ga_cg μ way addr fo = ga_cg ν way addr fo := by
  cases fo with
  | none => rfl
  | some f =>
    obtain ⟨h1, h2⟩ := h f rfl
    unfold ga_cg
    dsimp only
    unfold ga_il
    rw [h1, h2]
section GCL
variable {LL : Nat} {xs : Nat → Int32} {d : Nat} {n : Nat} {μ : Nat → Nat} {sp : Nat} {fo : Option Nat} {pc lp : Int32} {cl : Nat → Int32} {tk : Nat → Nat} {tc : Nat} {F : Nat → ga_F} {tn : Nat → Int32} {tl : gx_H} {M : ga_M}
/-! functions -/
theorem k_G_function_n (x hd : Int32) (hx : (x < 0 ∨ nI 12 ≤ x) ∨ hd < 0 ∨ nI 255 < hd) : gx_call LL xs (d + 2) z_G_function 0 0 [.ref 0, .int x, .int hd] (gc_h n μ sp fo pc lp cl tk tc F tn tl) (fun r h => r = some (.int (-(nI 1))) ∧ h = (gc_h n μ sp fo pc lp cl tk tc F tn tl)) := by
  rcases pk_ix x (n := 12) (by decide) with c | c | ⟨k, hk, rfl⟩
  · exact gs_G_function _ _ _ (gx_run 6 (And.intro ⟨_, rfl⟩ (gx_c1 (gx_le8 rfl) (k_G_functionOf_n (Or.inl c)) (gx_run 2 (And.intro rfl rfl)))))
  · exact gs_G_function _ _ _ (gx_run 6 (And.intro ⟨_, rfl⟩ (gx_c1 (gx_le8 rfl) (k_G_functionOf_n (Or.inr c)) (gx_run 2 (And.intro rfl rfl)))))
  · refine gs_G_function _ _ _ (gx_run 8 (And.intro ⟨_, rfl⟩ (gx_c1 (gx_le8 rfl) (k_G_functionOf hk) (And.intro (fun _ => gx_run 2 (And.intro rfl rfl)) (fun c1 => gx_run 3 (And.intro (fun c => ?_) (fun _ => gx_run 2 (And.intro rfl rfl))))))))
    rcases hx with (h | h) | h | h
    · exact absurd h (nI_pos (by omega))
    · exact absurd h (nI_ge hk (by omega))
    · exact absurd h c1
    · exact absurd h (Int32.not_lt.mpr c)
theorem k_G_function {k hd : Nat} (hk : k < 12) (hh : hd ≤ 255) : gx_call LL xs (d + 2) z_G_function 0 0 [.ref 0, .int (nI k), .int (nI hd)] (gc_h n μ sp fo pc lp cl tk tc F tn tl) (fun r h => r = some (.int (nI 1)) ∧ h = (gc_h n μ sp fo pc lp cl tk tc (va_up F k (hd, (F k).2.1, 0, (F k).2.2.2.1, (F k).2.2.2.2)) tn tl)) := by
  refine gs_G_function _ _ _ (gx_run 8 (And.intro ⟨_, rfl⟩ (gx_c1 (gx_le8 rfl) (k_G_functionOf hk) (And.intro (fun c => absurd c (nI_pos (by omega))) (fun c1 => gx_run 3 (And.intro (fun c => ?_) (fun c => absurd (nI_le hh (by omega)) c)))))))
  exact gx_run 5 (And.intro ⟨_, gc_at_o hk⟩ (gx_c1 (gx_le8 rfl) (k_F_begin hk) (And.intro rfl rfl)))
theorem k_G_format_n (x w c : Int32) (hx : (x < 0 ∨ nI 12 ≤ x) ∨ ¬ (w = nI 1 ∨ w = nI 2 ∨ w = nI 4) ∨ c < nI 1 ∨ nI 255 < c) : gx_call LL xs (d + 2) z_G_format 0 0 [.ref 0, .int x, .int w, .int c] (gc_h n μ sp fo pc lp cl tk tc F tn tl) (fun r h => r = some (.int (-(nI 1))) ∧ h = (gc_h n μ sp fo pc lp cl tk tc F tn tl)) := by
  rcases pk_ix x (n := 12) (by decide) with c | c | ⟨k, hk, rfl⟩
  · exact gs_G_format _ _ _ _ (gx_run 6 (And.intro ⟨_, rfl⟩ (gx_c1 (gx_le8 rfl) (k_G_functionOf_n (Or.inl c)) (gx_run 2 (And.intro rfl rfl)))))
  · exact gs_G_format _ _ _ _ (gx_run 6 (And.intro ⟨_, rfl⟩ (gx_c1 (gx_le8 rfl) (k_G_functionOf_n (Or.inr c)) (gx_run 2 (And.intro rfl rfl)))))
  · refine gs_G_format _ _ _ _ (gx_run 9 (And.intro ⟨_, rfl⟩ (gx_c1 (gx_le8 rfl) (k_G_functionOf hk) (gx_c1 (gx_le8 rfl) (k_G_isWidth w) ?_))))
    by_cases hw : w = nI 1 ∨ w = nI 2 ∨ w = nI 4
    · rw [if_pos hw]
      refine And.intro (fun c => absurd c (by decide)) (fun _ => gx_run 3 (And.intro (fun _ => gx_run 2 (And.intro rfl rfl)) (fun c1 => gx_run 3 (And.intro (fun c2 => ?_) (fun _ => gx_run 2 (And.intro rfl rfl))))))
      rcases hx with (h | h) | h | h | h
      · exact absurd h (nI_pos (by omega))
      · exact absurd h (nI_ge hk (by omega))
      · exact absurd hw h
      · exact absurd h c1
      · exact absurd h (Int32.not_lt.mpr c2)
    · rw [if_neg hw]
      exact And.intro (fun _ => gx_run 2 (And.intro rfl rfl)) (fun c => absurd rfl c)
theorem k_G_format {k w c : Nat} (hk : k < 12) (hw : w = 1 ∨ w = 2 ∨ w = 4) (h1 : 1 ≤ c) (h2 : c ≤ 255) (hp : (F k).2.2.1 ≤ 6) : gx_call LL xs (d + 2) z_G_format 0 0 [.ref 0, .int (nI k), .int (nI w), .int (nI c)] (gc_h n μ sp fo pc lp cl tk tc F tn tl) (fun r h => r = some (.int (if (F k).2.2.1 < 6 then nI ((F k).2.2.1 + 1) else -(nI 1))) ∧
    h = (gc_h n μ sp fo pc lp cl tk tc (if (F k).2.2.1 < 6 then va_up F k ((F k).1, (F k).2.1, (F k).2.2.1 + 1, va_up (F k).2.2.2.1 (F k).2.2.1 w, va_up (F k).2.2.2.2 (F k).2.2.1 c) else F) tn tl)) := by
  refine gs_G_format _ _ _ _ (gx_run 9 (And.intro ⟨_, rfl⟩ (gx_c1 (gx_le8 rfl) (k_G_functionOf hk) (gx_c1 (gx_le8 rfl) (k_G_isWidth (nI w)) ?_))))
  have hw2 : nI w = nI 1 ∨ nI w = nI 2 ∨ nI w = nI 4 := by
    rcases hw with rfl | rfl | rfl
    · exact Or.inl rfl
    · exact Or.inr (Or.inl rfl)
    · exact Or.inr (Or.inr rfl)
  rw [if_pos hw2]
  refine And.intro (fun c => absurd c (by decide)) (fun _ => gx_run 3 (And.intro (fun c => absurd c (nI_nlt h1 (by omega))) (fun c1 => gx_run 3 (And.intro (fun c2 => ?_) (fun c => absurd (nI_le h2 (by omega)) c)))))
  exact gx_run 5 (And.intro ⟨_, gc_at_o hk⟩ (gx_cq (gx_le8 rfl) (k_F_addPair hk hp) (fun r h1 q => by obtain ⟨rfl, rfl⟩ := q; exact And.intro rfl rfl)))
theorem k_G_accelerate_n (x c : Int32) (hx : (x < 0 ∨ nI 12 ≤ x) ∨ c < 0 ∨ nI 3 < c) : gx_call LL xs (d + 2) z_G_accelerate 0 0 [.ref 0, .int x, .int c] (gc_h n μ sp fo pc lp cl tk tc F tn tl) (fun r h => r = some (.int (-(nI 1))) ∧ h = (gc_h n μ sp fo pc lp cl tk tc F tn tl)) := by
  rcases pk_ix x (n := 12) (by decide) with c | c | ⟨k, hk, rfl⟩
  · exact gs_G_accelerate _ _ _ (gx_run 6 (And.intro ⟨_, rfl⟩ (gx_c1 (gx_le8 rfl) (k_G_functionOf_n (Or.inl c)) (gx_run 2 (And.intro rfl rfl)))))
  · exact gs_G_accelerate _ _ _ (gx_run 6 (And.intro ⟨_, rfl⟩ (gx_c1 (gx_le8 rfl) (k_G_functionOf_n (Or.inr c)) (gx_run 2 (And.intro rfl rfl)))))
  · refine gs_G_accelerate _ _ _ (gx_run 8 (And.intro ⟨_, rfl⟩ (gx_c1 (gx_le8 rfl) (k_G_functionOf hk) (And.intro (fun _ => gx_run 2 (And.intro rfl rfl)) (fun c1 => gx_run 3 (And.intro (fun c => ?_) (fun _ => gx_run 2 (And.intro rfl rfl))))))))
    rcases hx with (h | h) | h | h
    · exact absurd h (nI_pos (by omega))
    · exact absurd h (nI_ge hk (by omega))
    · exact absurd h c1
    · exact absurd h (Int32.not_lt.mpr c)
theorem k_G_accelerate {k c : Nat} (hk : k < 12) (hc : c ≤ 3) : gx_call LL xs (d + 2) z_G_accelerate 0 0 [.ref 0, .int (nI k), .int (nI c)] (gc_h n μ sp fo pc lp cl tk tc F tn tl) (fun r h => r = some (.int (nI (F k).2.1)) ∧ h = (gc_h n μ sp fo pc lp cl tk tc (va_up F k ((F k).1, c, (F k).2.2.1, (F k).2.2.2.1, (F k).2.2.2.2)) tn tl)) := by
  refine gs_G_accelerate _ _ _ (gx_run 8 (And.intro ⟨_, rfl⟩ (gx_c1 (gx_le8 rfl) (k_G_functionOf hk) (And.intro (fun c => absurd c (nI_pos (by omega))) (fun _ => gx_run 3 (And.intro (fun _ => ?_) (fun c => absurd (nI_le hc (by omega)) c)))))))
  refine gx_run 1 (gx_getf rfl (gc_at_o hk) rfl (gx_run 3 (gx_putf rfl (gc_at_o hk) rfl (fun P hP => hP) (gx_run 2 (And.intro rfl ?_)))))
  exact gc_set_o hk (F k).1 c (F k).2.2.1
/-- told -/
def ga_td (f : ga_F) (x : Int32) : Int32 := if x = nI 0 then nI f.1 else if x = nI 1 then nI f.2.2.1 else if x = nI 2 then nI (ga_lc f.2.2.2.2 f.2.2.1) else if x = nI 3 then nI (ga_len f) else if x = nI 4 then nI (ga_lb f) else -(nI 1)
theorem k_G_told_n (x w : Int32) (hx : x < 0 ∨ nI 12 ≤ x) : gx_call LL xs (d + 2) z_G_told 0 0 [.ref 0, .int x, .int w] (gc_h n μ sp fo pc lp cl tk tc F tn tl) (fun r h => r = some (.int (-(nI 1))) ∧ h = (gc_h n μ sp fo pc lp cl tk tc F tn tl)) :=
  gs_G_told _ _ _ (gx_run 6 (And.intro ⟨_, rfl⟩ (gx_c1 (gx_le8 rfl) (k_G_functionOf_n hx) (gx_run 2 (And.intro rfl rfl)))))
theorem k_G_told {k : Nat} (x : Int32) (hk : k < 12) (hw : ga_wf (F k)) : gx_call LL xs (d + 4) z_G_told 0 0 [.ref 0, .int (nI k), .int x] (gc_h n μ sp fo pc lp cl tk tc F tn tl) (fun r h => r = some (.int (ga_td (F k) x)) ∧ h = (gc_h n μ sp fo pc lp cl tk tc F tn tl)) := by
  refine gs_G_told _ _ _ (gx_run 6 (And.intro ⟨_, rfl⟩ (gx_c1 (gx_le8 rfl) (k_G_functionOf hk) (gx_run 2 ?_))))
  refine And.intro (fun c => ?_) (And.intro (fun c => ?_) (And.intro (fun c => ?_) (And.intro (fun c => ?_) (And.intro (fun c => ?_) (And.intro (fun c => ?_) trivial)))))
  · refine gx_run 2 (And.intro ?_ rfl)
    have c0 : ¬ x = nI 0 := c 0 (by decide)
    have c1 : ¬ x = nI 1 := c 1 (by decide)
    have c2 : ¬ x = nI 2 := c 2 (by decide)
    have c3 : ¬ x = nI 3 := c 3 (by decide)
    have c4 : ¬ x = nI 4 := c 4 (by decide)
    simp only [ga_td, if_neg c0, if_neg c1, if_neg c2, if_neg c3, if_neg c4]
  · obtain rfl : x = nI 0 := c
    exact gx_run 1 (gx_getf rfl (gc_at_o hk) rfl (gx_run 1 (And.intro rfl rfl)))
  · obtain rfl : x = nI 1 := c
    exact gx_run 1 (gx_getf rfl (gc_at_o hk) rfl (gx_run 1 (And.intro rfl rfl)))
  · obtain rfl : x = nI 2 := c
    exact gx_run 3 (And.intro ⟨_, gc_at_o hk⟩ (gx_c1 (gx_le8 rfl) (k_F_localCount hk hw.2.2.1) (And.intro rfl rfl)))
  · obtain rfl : x = nI 3 := c
    exact gx_run 3 (And.intro ⟨_, gc_at_o hk⟩ (gx_c1 (gx_le8 rfl) (k_F_frameLength hk hw) (And.intro rfl rfl)))
  · obtain rfl : x = nI 4 := c
    exact gx_run 3 (And.intro ⟨_, gc_at_o hk⟩ (gx_c1 (gx_le8 rfl) (k_F_localsBegin hk hw.2.2.1) (And.intro rfl rfl)))
theorem k_G_local_n (x q : Int32) (hx : x < 0 ∨ nI 12 ≤ x) : gx_call LL xs (d + 2) z_G_local 0 0 [.ref 0, .int x, .int q] (gc_h n μ sp fo pc lp cl tk tc F tn tl) (fun r h => r = some (.int (-(nI 1))) ∧ h = (gc_h n μ sp fo pc lp cl tk tc F tn tl)) :=
  gs_G_local _ _ _ (gx_run 6 (And.intro ⟨_, rfl⟩ (gx_c1 (gx_le8 rfl) (k_G_functionOf_n hx) (gx_run 3 (And.intro rfl rfl)))))
theorem k_G_local_m {k : Nat} (x : Int32) (hk : k < 12) (hx : x < 0) : gx_call LL xs (d + 3) z_G_local 0 0 [.ref 0, .int (nI k), .int x] (gc_h n μ sp fo pc lp cl tk tc F tn tl) (fun r h => r = some (.int (-(nI 1))) ∧ h = (gc_h n μ sp fo pc lp cl tk tc F tn tl)) :=
  gs_G_local _ _ _ (gx_run 6 (And.intro ⟨_, rfl⟩ (gx_c1 (gx_le8 rfl) (k_G_functionOf hk) (gx_run 4 (And.intro ⟨_, gc_at_o hk⟩ (gx_c1 (gx_le8 rfl) (k_F_placeOfLocal_n hk hx) (And.intro rfl rfl)))))))
theorem k_G_local {k q : Nat} (hk : k < 12) (hw : ga_wf (F k)) (hq : q < 2147483648) : gx_call LL xs (d + 3) z_G_local 0 0 [.ref 0, .int (nI k), .int (nI q)] (gc_h n μ sp fo pc lp cl tk tc F tn tl) (fun r h => r = some (.int (ga_fp (ga_pl (F k).2.2.2.1 (F k).2.2.2.2 0 (F k).2.2.1 0 q))) ∧ h = (gc_h n μ sp fo pc lp cl tk tc F tn tl)) :=
  gs_G_local _ _ _ (gx_run 6 (And.intro ⟨_, rfl⟩ (gx_c1 (gx_le8 rfl) (k_G_functionOf hk) (gx_run 4 (And.intro ⟨_, gc_at_o hk⟩ (gx_c1 (gx_le8 rfl) (k_F_placeOfLocal hk hw hq) (And.intro rfl rfl)))))))
/-! stubs, returns -/
theorem k_G_pushStub (way addr p : Int32) (hs : sp + 16 ≤ n) (hn : n ≤ 1024) : gx_call LL xs (d + 4) z_G_pushStub 0 0 [.ref 0, .int way, .int addr, .int p] (gc_h n μ sp fo pc lp cl tk tc F tn tl) (fun r h => r = none ∧ h = (gc_h n (ga_st μ sp way addr p (ga_fp fo)) (sp + 16) fo pc lp cl tk tc F tn tl)) := by
  refine gs_G_pushStub _ _ _ _ (gx_run 18 (And.intro ⟨_, rfl⟩ (gx_c1 (gx_le8 rfl) (k_R_append (show sp + 4 ≤ n by omega) (show n < 2147483648 by omega)) (And.intro ⟨_, rfl⟩ (gx_c1 (gx_le8 rfl) (k_R_append (show sp + 4 + 4 ≤ n by omega) (show n < 2147483648 by omega)) ?_)))))
  exact And.intro ⟨_, rfl⟩ (gx_c1 (gx_le8 rfl) (k_R_append (show sp + 4 + 4 + 4 ≤ n by omega) (show n < 2147483648 by omega)) (And.intro ⟨_, rfl⟩ (gx_c1 (gx_le8 rfl) (k_R_append (show sp + 4 + 4 + 4 + 4 ≤ n by omega) (show n < 2147483648 by omega)) (And.intro rfl rfl))))
theorem k_G_goBack_e (v : Int32) {e : Nat} {fp2 : Option Nat} (h16 : 16 ≤ e) (he : e ≤ n) (hn : n ≤ 1024) (hμ : ∀ i, μ i < 256) (hrd : ga_rd μ (e - 4) 4 = ga_fp fp2) (hf : ∀ f, fp2 = some f → f + 8 ≤ n ∧ ga_w μ (f + 4) ≤ ga_w μ f) (hcg : ga_cg μ (ga_rd μ (e - 16) 4) (ga_rd μ (e - 12) 4) fp2 = false) :
    gx_call LL xs (d + 6) z_G_goBack 0 0 [.ref 0, .int (nI e), .int v] (gc_h n μ sp fo pc lp cl tk tc F tn tl) (fun r h => r = some (.int (-(nI 13))) ∧ h = (gc_h n μ sp fo pc lp cl tk tc F tn tl)) := by
  have e1 : nI e - nI 16 = nI (e - 16) := pk_sub h16
  have c1 : gx_call LL xs (d + 5) z_R_number 0 0 [.ref 3, .int (nI e - nI 16), .int (nI 4)] (gc_h n μ sp fo pc lp cl tk tc F tn tl) (fun r h => r = some (.int (ga_rd μ (e - 16) 4)) ∧ h = (gc_h n μ sp fo pc lp cl tk tc F tn tl)) := by
    rw [e1]; exact k_R_number (by omega) (by omega) hμ
  have c2 : gx_call LL xs (d + 5) z_R_number 0 0 [.ref 3, .int (nI e - nI 16 + nI 4), .int (nI 4)] (gc_h n μ sp fo pc lp cl tk tc F tn tl) (fun r h => r = some (.int (ga_rd μ (e - 12) 4)) ∧ h = (gc_h n μ sp fo pc lp cl tk tc F tn tl)) := by
    rw [e1, nI_add, show e - 16 + 4 = e - 12 by omega]; exact k_R_number (by omega) (by omega) hμ
  have c3 := k_G_frameBelow (LL := LL) (xs := xs) (d := d + 2) (n := n) (μ := μ) (sp := sp) (fo := fo) (pc := pc) (lp := lp) (cl := cl) (tk := tk) (tc := tc) (F := F) (tn := tn) (tl := tl) (show 4 ≤ e by omega) he (by omega) hμ
  rw [hrd] at c3
  have c4 := k_G_canGo (LL := LL) (xs := xs) (d := d) (n := n) (μ := μ) (sp := sp) (fo := fo) (pc := pc) (lp := lp) (cl := cl) (tk := tk) (tc := tc) (F := F) (tn := tn) (tl := tl) (ga_rd μ (e - 16) 4) (ga_rd μ (e - 12) 4) (fp2 := fp2) (by omega) hμ hf
  rw [hcg] at c4
  refine gs_G_goBack _ _ _ (gx_run 28 (And.intro ⟨_, rfl⟩ (gx_c1 (gx_le8 rfl) c1 (And.intro ⟨_, rfl⟩ (gx_c1 (gx_le8 rfl) c2 (And.intro ⟨_, rfl⟩ (gx_c1 (gx_le8 rfl) c3 (And.intro ⟨_, rfl⟩ (gx_c1 (gx_le8 rfl) c4 ?_)))))))))
  exact And.intro (fun c => absurd rfl c) (fun _ => gx_run 2 (And.intro rfl rfl))
theorem k_G_goBack (v : Int32) {e c : Nat} {fp2 : Option Nat} (h16 : 16 ≤ e) (he : e ≤ sp) (hs : sp ≤ n) (hn : n ≤ 1024) (hμ : ∀ i, μ i < 256) (hrd : ga_rd μ (e - 4) 4 = ga_fp fp2) (hf : ∀ f, fp2 = some f → f + 8 ≤ n ∧ ga_w μ (f + 4) ≤ ga_w μ f ∧ f + ga_w μ f ≤ n) (hcg : ga_cg μ (ga_rd μ (e - 16) 4) (ga_rd μ (e - 12) 4) fp2 = true)
    (hlow : ∀ c', c = c' + 1 → tk c' < e) (hcc : c ≤ tc) (htc : tc ≤ n / 16 + 1) (hi : ∀ i, c ≤ i → i < tc → e ≤ tk i ∧ tk i < 2147483648) :
    gx_call LL xs (d + 6) z_G_goBack 0 0 [.ref 0, .int (nI e), .int v] (gc_h n μ sp fo pc lp cl tk tc F tn tl) (fun r h => r = some (.int (ga_fp fp2)) ∧ h = (gc_h n (ga_g1 μ (e - 16) fp2 (ga_rd μ (e - 16) 4) (ga_rd μ (e - 12) 4) v) (ga_g2 (e - 16) (ga_rd μ (e - 16) 4)) fp2 (ga_rd μ (e - 8) 4) lp (ga_g3 cl (ga_rd μ (e - 16) 4) (ga_rd μ (e - 12) 4) v) tk c F tn tl)) := by
  have e1 : nI e - nI 16 = nI (e - 16) := pk_sub h16
  have c1 : gx_call LL xs (d + 5) z_R_number 0 0 [.ref 3, .int (nI e - nI 16), .int (nI 4)] (gc_h n μ sp fo pc lp cl tk tc F tn tl) (fun r h => r = some (.int (ga_rd μ (e - 16) 4)) ∧ h = (gc_h n μ sp fo pc lp cl tk tc F tn tl)) := by
    rw [e1]; exact k_R_number (by omega) (by omega) hμ
  have c2 : gx_call LL xs (d + 5) z_R_number 0 0 [.ref 3, .int (nI e - nI 16 + nI 4), .int (nI 4)] (gc_h n μ sp fo pc lp cl tk tc F tn tl) (fun r h => r = some (.int (ga_rd μ (e - 12) 4)) ∧ h = (gc_h n μ sp fo pc lp cl tk tc F tn tl)) := by
    rw [e1, nI_add, show e - 16 + 4 = e - 12 by omega]; exact k_R_number (by omega) (by omega) hμ
  have c3 := k_G_frameBelow (LL := LL) (xs := xs) (d := d + 2) (n := n) (μ := μ) (sp := sp) (fo := fo) (pc := pc) (lp := lp) (cl := cl) (tk := tk) (tc := tc) (F := F) (tn := tn) (tl := tl) (show 4 ≤ e by omega) (show e ≤ n by omega) (by omega) hμ
  rw [hrd] at c3
  have c4 := k_G_canGo (LL := LL) (xs := xs) (d := d) (n := n) (μ := μ) (sp := sp) (fo := fo) (pc := pc) (lp := lp) (cl := cl) (tk := tk) (tc := tc) (F := F) (tn := tn) (tl := tl) (ga_rd μ (e - 16) 4) (ga_rd μ (e - 12) 4) (fp2 := fp2) (by omega) hμ (fun f h => ⟨(hf f h).1, (hf f h).2.1⟩)
  rw [hcg] at c4
  have c5 : gx_call LL xs (d + 5) z_R_number 0 0 [.ref 3, .int (nI e - nI 16 + nI 8), .int (nI 4)] (gc_h n μ sp fo pc lp cl tk tc F tn tl) (fun r h => r = some (.int (ga_rd μ (e - 8) 4)) ∧ h = (gc_h n μ sp fo pc lp cl tk tc F tn tl)) := by
    rw [e1, nI_add, show e - 16 + 8 = e - 8 by omega]; exact k_R_number (by omega) (by omega) hμ
  have c6 := k_G_drop (LL := LL) (xs := xs) (d := d + 3) (n := n) (μ := μ) (sp := sp) (fo := fp2) (pc := ga_rd μ (e - 8) 4) (lp := lp) (cl := cl) (tk := tk) (tc := tc) (F := F) (tn := tn) (tl := tl) (show n < 2147483648 by omega) (show e < 2147483648 by omega) hlow hcc htc hi
  have c7 : gx_call LL xs (d + 5) z_R_cutTo 0 0 [.ref 3, .int (nI e - nI 16)] (gc_h n μ sp fp2 (ga_rd μ (e - 8) 4) lp cl tk c F tn tl) (fun r h => r = none ∧ h = (gc_h n μ (e - 16) fp2 (ga_rd μ (e - 8) 4) lp cl tk c F tn tl)) := by
    rw [e1]; exact k_R_cutTo (by omega) (by omega)
  have c8 := k_G_send (LL := LL) (xs := xs) (d := d + 1) (n := n) (μ := μ) (sp := e - 16) (fo := fp2) (pc := ga_rd μ (e - 8) 4) (lp := lp) (cl := cl) (tk := tk) (tc := c) (F := F) (tn := tn) (tl := tl) v (ga_rd μ (e - 16) 4) (ga_rd μ (e - 12) 4) hn (show e - 16 ≤ n by omega) hμ (fun f h => ⟨(hf f h).1, (hf f h).2.2⟩) hcg (fun _ => by omega)
  refine gs_G_goBack _ _ _ (gx_run 28 (And.intro ⟨_, rfl⟩ (gx_c1 (gx_le8 rfl) c1 (And.intro ⟨_, rfl⟩ (gx_c1 (gx_le8 rfl) c2 (And.intro ⟨_, rfl⟩ (gx_c1 (gx_le8 rfl) c3 (And.intro ⟨_, rfl⟩ (gx_c1 (gx_le8 rfl) c4 (And.intro (fun _ => ?_) (fun c => absurd c (by decide))))))))))))
  exact gx_run 27 (And.intro ⟨_, rfl⟩ (gx_c1 (gx_le8 rfl) c5 (And.intro ⟨_, rfl⟩ (gx_c1 (gx_le8 rfl) c6 (And.intro ⟨_, rfl⟩ (gx_c1 (gx_le8 rfl) c7 (And.intro ⟨_, rfl⟩ (gx_c1 (gx_le8 rfl) c8 (And.intro rfl rfl)))))))))
theorem k_G_leave_n (v : Int32) : gx_call LL xs (d + 1) z_G_leave 0 0 [.ref 0, .int v] (gc_h n μ sp none pc lp cl tk tc F tn tl) (fun r h => r = some (.int (-(nI 16))) ∧ h = (gc_h n μ sp none pc lp cl tk tc F tn tl)) :=
  gs_G_leave _ _ (gx_run 4 (And.intro (fun c => absurd rfl c) (fun _ => gx_run 3 (And.intro rfl rfl))))
theorem k_G_leave (v : Int32) {f : Nat} (hf : f < 2147483648) {r0 : Int32} {h0 : gx_H} (hc : gx_call LL xs d z_G_goBack 0 0 [.ref 0, .int (nI f), .int v] (gc_h n μ sp (some f) pc lp cl tk tc F tn tl) (fun r h => r = some (.int r0) ∧ h = h0)) : gx_call LL xs (d + 1) z_G_leave 0 0 [.ref 0, .int v] (gc_h n μ sp (some f) pc lp cl tk tc F tn tl) (fun r h => r = some (.int r0) ∧ h = h0) :=
  gs_G_leave _ _ (gx_run 4 (And.intro (fun _ => gx_run 6 (And.intro ⟨_, rfl⟩ (gx_c1 (gx_le8 rfl) hc (And.intro rfl rfl)))) (fun c => absurd c (ga_fp_none hf))))
theorem k_G_thrown_n (x v : Int32) (hc : tc ≤ n / 16 + 1) (hn : n < 2147483648) (hx : ∀ j, j < tc → ¬ nI (tk j) = x) : gx_call LL xs (d + 2) z_G_thrown 0 0 [.ref 0, .int x, .int v] (gc_h n μ sp fo pc lp cl tk tc F tn tl) (fun r h => r = some (.int (-(nI 14))) ∧ h = (gc_h n μ sp fo pc lp cl tk tc F tn tl)) := by
  refine gs_G_thrown _ _ _ (gx_run 4 (And.intro ⟨_, rfl⟩ (gx_cq (gx_le8 rfl) (k_G_isLive x hc hn) (fun r h1 q => ?_))))
  obtain ⟨q, rfl⟩ := q
  rcases q with ⟨-, j, hj, e⟩ | ⟨rfl, -⟩
  · exact absurd e (hx j hj)
  · exact And.intro (fun _ => gx_run 2 (And.intro rfl rfl)) (fun c => absurd rfl c)
theorem k_G_thrown (v : Int32) {j : Nat} (hc : tc ≤ n / 16 + 1) (hn : n < 2147483648) (hj : j < tc) {r0 : Int32} {h0 : gx_H} (hb : gx_call LL xs (d + 1) z_G_goBack 0 0 [.ref 0, .int (nI (tk j)), .int v] (gc_h n μ sp fo pc lp cl tk tc F tn tl) (fun r h => r = some (.int r0) ∧ h = h0)) : gx_call LL xs (d + 2) z_G_thrown 0 0 [.ref 0, .int (nI (tk j)), .int v] (gc_h n μ sp fo pc lp cl tk tc F tn tl) (fun r h => r = some (.int r0) ∧ h = h0) := by
  refine gs_G_thrown _ _ _ (gx_run 4 (And.intro ⟨_, rfl⟩ (gx_cq (gx_le8 rfl) (k_G_isLive (nI (tk j)) hc hn) (fun r h1 q => ?_))))
  obtain ⟨q, rfl⟩ := q
  rcases q with ⟨rfl, -⟩ | ⟨-, hx⟩
  · exact And.intro (fun c => absurd c (by decide)) (fun _ => gx_run 6 (And.intro ⟨_, rfl⟩ (gx_c1 (gx_le8 rfl) hb (And.intro rfl rfl))))
  · exact absurd rfl (hx j hj)
theorem k_G_caught_b (way addr p : Int32) (hw : way < 0 ∨ nI 3 < way) : gx_call LL xs (d + 2) z_G_caught 0 0 [.ref 0, .int way, .int addr, .int p] (gc_h n μ sp fo pc lp cl tk tc F tn tl) (fun r h => r = some (.int (-(nI 1))) ∧ h = (gc_h n μ sp fo pc lp cl tk tc F tn tl)) := by
  refine gs_G_caught _ _ _ _ (gx_run 3 (gx_c1 (gx_le8 rfl) (k_G_isWay way) ?_))
  rw [if_pos hw]
  exact And.intro (fun c => absurd rfl c) (fun _ => gx_run 2 (And.intro rfl rfl))
theorem k_G_caught_n (way addr p : Int32) (hw : ¬ (way < 0 ∨ nI 3 < way)) : gx_call LL xs (d + 2) z_G_caught 0 0 [.ref 0, .int way, .int addr, .int p] (gc_h n μ sp none pc lp cl tk tc F tn tl) (fun r h => r = some (.int (-(nI 16))) ∧ h = (gc_h n μ sp none pc lp cl tk tc F tn tl)) := by
  refine gs_G_caught _ _ _ _ (gx_run 3 (gx_c1 (gx_le8 rfl) (k_G_isWay way) ?_))
  rw [if_neg hw]
  exact And.intro (fun _ => gx_run 4 (And.intro (fun c => absurd rfl c) (fun _ => gx_run 2 (And.intro rfl rfl)))) (fun c => absurd c (by decide))
theorem k_G_caught_w (way addr p : Int32) {f : Nat} (hw : ¬ (way < 0 ∨ nI 3 < way)) (hf : f + 8 ≤ n) (hl : ga_w μ (f + 4) ≤ ga_w μ f) (hn : n ≤ 1024) (hμ : ∀ i, μ i < 256) (hcg : ga_cg μ way addr (some f) = false) : gx_call LL xs (d + 6) z_G_caught 0 0 [.ref 0, .int way, .int addr, .int p] (gc_h n μ sp (some f) pc lp cl tk tc F tn tl) (fun r h => r = some (.int (-(nI 13))) ∧ h = (gc_h n μ sp (some f) pc lp cl tk tc F tn tl)) := by
  have c4 := k_G_canGo (LL := LL) (xs := xs) (d := d) (n := n) (μ := μ) (sp := sp) (fo := some f) (pc := pc) (lp := lp) (cl := cl) (tk := tk) (tc := tc) (F := F) (tn := tn) (tl := tl) way addr (fp2 := some f) (by omega) hμ (fun g h => by cases h; exact ⟨hf, hl⟩)
  rw [hcg] at c4
  refine gs_G_caught _ _ _ _ (gx_run 3 (gx_c1 (gx_le8 rfl) (k_G_isWay way) ?_))
  rw [if_neg hw]
  refine And.intro (fun _ => gx_run 4 (And.intro (fun _ => ?_) (fun c => absurd c (ga_fp_none (by omega))))) (fun c => absurd c (by decide))
  exact gx_run 7 (And.intro ⟨_, rfl⟩ (gx_c1 (gx_le8 rfl) c4 (And.intro (fun c => absurd rfl c) (fun _ => gx_run 2 (And.intro rfl rfl)))))
theorem k_G_caught_f (way addr p : Int32) {f : Nat} (hw : ¬ (way < 0 ∨ nI 3 < way)) (hf : f + 8 ≤ n) (hl : ga_w μ (f + 4) ≤ ga_w μ f) (hs : sp ≤ n) (hn : n ≤ 1024) (hμ : ∀ i, μ i < 256) (hcg : ga_cg μ way addr (some f) = true) (hfull : n < sp + 16 + (if way = nI 3 then 4 else 0)) : gx_call LL xs (d + 6) z_G_caught 0 0 [.ref 0, .int way, .int addr, .int p] (gc_h n μ sp (some f) pc lp cl tk tc F tn tl) (fun r h => r = some (.int (-(nI 15))) ∧ h = (gc_h n μ sp (some f) pc lp cl tk tc F tn tl)) := by
  have c4 := k_G_canGo (LL := LL) (xs := xs) (d := d) (n := n) (μ := μ) (sp := sp) (fo := some f) (pc := pc) (lp := lp) (cl := cl) (tk := tk) (tc := tc) (F := F) (tn := tn) (tl := tl) way addr (fp2 := some f) (by omega) hμ (fun g h => by cases h; exact ⟨hf, hl⟩)
  rw [hcg] at c4
  have hr : ∀ q, n < q → q < 2147483648 → gx_call LL xs (d + 5) z_R_reaches 0 0 [.ref 3, .int (nI q)] (gc_h n μ sp (some f) pc lp cl tk tc F tn tl) (fun r h => r = some (.int (nI 0)) ∧ h = (gc_h n μ sp (some f) pc lp cl tk tc F tn tl)) := fun q h1 h2 => by
    have := k_R_reaches (LL := LL) (xs := xs) (d := d + 4) (n := n) (μ := μ) (sp := sp) (fo := some f) (pc := pc) (lp := lp) (cl := cl) (tk := tk) (tc := tc) (F := F) (tn := tn) (tl := tl) (nI q)
    rw [if_pos (nI_lt h1 h2)] at this
    exact this
  refine gs_G_caught _ _ _ _ (gx_run 3 (gx_c1 (gx_le8 rfl) (k_G_isWay way) ?_))
  rw [if_neg hw]
  refine And.intro (fun _ => gx_run 4 (And.intro (fun _ => ?_) (fun c => absurd c (ga_fp_none (by omega))))) (fun c => absurd c (by decide))
  refine gx_run 7 (And.intro ⟨_, rfl⟩ (gx_c1 (gx_le8 rfl) c4 (And.intro (fun _ => ?_) (fun c => absurd c (by decide)))))
  refine gx_run 11 (And.intro ⟨_, rfl⟩ (gx_c1 (gx_le8 rfl) k_R_end (And.intro (fun c => ?_) (fun c => ?_))))
  · rw [if_neg c] at hfull
    have hr1 := hr (sp + 16) (by omega) (by omega)
    rw [← nI_add] at hr1
    exact gx_run 3 (And.intro ⟨_, rfl⟩ (gx_c1 (gx_le8 rfl) hr1 (And.intro (fun c => absurd rfl c) (fun _ => gx_run 2 (And.intro rfl rfl)))))
  · rw [if_pos c] at hfull
    have hr1 := hr (sp + 16 + 4) (by omega) (by omega)
    rw [← nI_add, ← nI_add] at hr1
    exact gx_run 6 (And.intro ⟨_, rfl⟩ (gx_c1 (gx_le8 rfl) hr1 (And.intro (fun c => absurd rfl c) (fun _ => gx_run 2 (And.intro rfl rfl)))))
theorem k_G_caught (way addr p : Int32) {f : Nat} (hw : ¬ (way < 0 ∨ nI 3 < way)) (hf : f + 8 ≤ sp) (hfn : f + ga_w μ f ≤ sp) (hl : ga_w μ (f + 4) ≤ ga_w μ f) (hn : n ≤ 1024) (hμ : ∀ i, μ i < 256) (hcg : ga_cg μ way addr (some f) = true) (hfull : sp + 16 + (if way = nI 3 then 4 else 0) ≤ n) (htc : tc < n / 16 + 1) : gx_call LL xs (d + 6) z_G_caught 0 0 [.ref 0, .int way, .int addr, .int p] (gc_h n μ sp (some f) pc lp cl tk tc F tn tl)
    (fun r h => r = some (.int (nI (sp + 16))) ∧ h = (gc_h n (ga_g1 (ga_st μ sp way addr p (nI f)) (sp + 16) (some f) way addr (nI (sp + 16))) (ga_g2 (sp + 16) way) (some f) pc lp (ga_g3 cl way addr (nI (sp + 16))) (va_up tk tc (sp + 16)) (tc + 1) F tn tl)) := by
  have c4 := k_G_canGo (LL := LL) (xs := xs) (d := d) (n := n) (μ := μ) (sp := sp) (fo := some f) (pc := pc) (lp := lp) (cl := cl) (tk := tk) (tc := tc) (F := F) (tn := tn) (tl := tl) way addr (fp2 := some f) (by omega) hμ (fun g h => by cases h; exact ⟨by omega, hl⟩)
  rw [hcg] at c4
  have hs16 : sp + 16 ≤ n := by omega
  have hr : ∀ q, q ≤ n → gx_call LL xs (d + 5) z_R_reaches 0 0 [.ref 3, .int (nI q)] (gc_h n μ sp (some f) pc lp cl tk tc F tn tl) (fun r h => r = some (.int (nI 1)) ∧ h = (gc_h n μ sp (some f) pc lp cl tk tc F tn tl)) := fun q h1 => by
    have := k_R_reaches (LL := LL) (xs := xs) (d := d + 4) (n := n) (μ := μ) (sp := sp) (fo := some f) (pc := pc) (lp := lp) (cl := cl) (tk := tk) (tc := tc) (F := F) (tn := tn) (tl := tl) (nI q)
    rw [if_neg (nI_nlt h1 (by omega))] at this
    exact this
  have hout : ∀ i, i < sp → ga_st μ sp way addr p (nI f) i = μ i := fun i hi => ga_st_out (Or.inl hi)
  have w1 : ga_w (ga_st μ sp way addr p (nI f)) f = ga_w μ f := ga_w_cong fun i h1 h2 => hout i (by omega)
  have w2 : ga_w (ga_st μ sp way addr p (nI f)) (f + 4) = ga_w μ (f + 4) := ga_w_cong fun i h1 h2 => hout i (by omega)
  have hcg2 : ga_cg (ga_st μ sp way addr p (nI f)) way addr (some f) = true := by
    rw [← hcg]
    exact ga_cg_cong fun g h => by cases h; exact ⟨w1, w2⟩
  have c5 := k_G_pushStub (LL := LL) (xs := xs) (d := d + 1) (n := n) (μ := μ) (sp := sp) (fo := some f) (pc := pc) (lp := lp) (cl := cl) (tk := tk) (tc := tc) (F := F) (tn := tn) (tl := tl) way addr p hs16 hn
  have c6 : gx_call LL xs (d + 5) z_G_addToken 0 0 [.ref 0, .int (nI sp + nI 16)] (gc_h n (ga_st μ sp way addr p (nI f)) (sp + 16) (some f) pc lp cl tk tc F tn tl) (fun r h => r = none ∧ h = (gc_h n (ga_st μ sp way addr p (nI f)) (sp + 16) (some f) pc lp cl (va_up tk tc (sp + 16)) (tc + 1) F tn tl)) := by
    rw [nI_add]
    exact k_G_addToken htc (by omega)
  have c7 := k_G_send (LL := LL) (xs := xs) (d := d + 1) (n := n) (μ := ga_st μ sp way addr p (nI f)) (sp := sp + 16) (fo := some f) (pc := pc) (lp := lp) (cl := cl) (tk := va_up tk tc (sp + 16)) (tc := tc + 1) (F := F) (tn := tn) (tl := tl) (nI (sp + 16)) way addr hn hs16 (ga_st_lt hμ) (fun g h => by cases h; rw [w1]; exact ⟨by omega, by omega⟩) hcg2 (fun h => by rw [if_pos h] at hfull; omega)
  rw [← nI_add sp 16] at c7 ⊢
  refine gs_G_caught _ _ _ _ (gx_run 3 (gx_c1 (gx_le8 rfl) (k_G_isWay way) ?_))
  rw [if_neg hw]
  refine And.intro (fun _ => gx_run 4 (And.intro (fun _ => ?_) (fun c => absurd c (ga_fp_none (by omega))))) (fun c => absurd c (by decide))
  refine gx_run 7 (And.intro ⟨_, rfl⟩ (gx_c1 (gx_le8 rfl) c4 (And.intro (fun _ => ?_) (fun c => absurd c (by decide)))))
  refine gx_run 11 (And.intro ⟨_, rfl⟩ (gx_c1 (gx_le8 rfl) k_R_end (And.intro (fun c => ?_) (fun c => ?_))))
  · have hr1 := hr (sp + 16) (by omega)
    rw [← nI_add] at hr1
    refine gx_run 3 (And.intro ⟨_, rfl⟩ (gx_c1 (gx_le8 rfl) hr1 (And.intro (fun _ => ?_) (fun c => absurd c (by decide)))))
    exact gx_run 15 (And.intro ⟨_, rfl⟩ (gx_c1 (gx_le8 rfl) c5 (And.intro ⟨_, rfl⟩ (gx_c1 (gx_le8 rfl) c6 (And.intro ⟨_, rfl⟩ (gx_c1 (gx_le8 rfl) c7 (And.intro rfl rfl)))))))
  · rw [if_pos c] at hfull
    have hr1 := hr (sp + 16 + 4) (by omega)
    rw [← nI_add, ← nI_add] at hr1
    refine gx_run 6 (And.intro ⟨_, rfl⟩ (gx_c1 (gx_le8 rfl) hr1 (And.intro (fun _ => ?_) (fun c => absurd c (by decide)))))
    exact gx_run 15 (And.intro ⟨_, rfl⟩ (gx_c1 (gx_le8 rfl) c5 (And.intro ⟨_, rfl⟩ (gx_c1 (gx_le8 rfl) c6 (And.intro ⟨_, rfl⟩ (gx_c1 (gx_le8 rfl) c7 (And.intro rfl rfl)))))))
end GCL
