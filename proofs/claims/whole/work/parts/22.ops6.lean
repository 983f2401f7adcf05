/-! call and tail. -/
theorem ga_en_cong {f : ga_F} {A B : Nat → Int32} {m : Nat} {μ : Nat → Nat} {sp : Nat} (h : ∀ j, j < m → A j = B j) : ga_en f A m μ sp = ga_en f B m μ sp := by
  unfold ga_en
  split
  · rw [ga_ws_cong (V := fun p => A (m - 1 - p)) (W := fun p => B (m - 1 - p)) fun j hj => h _ (by omega)]
  · exact ga_sl_cong fun j hj => h j (by omega)
theorem ga_tv_va {μ : Nat → Nat} {sp m : Nat} {tn : Nat → Int32} : ∀ j, j < m → ga_tv μ sp m tn j = ga_va μ sp j := fun j hj => if_pos hj
section GCO
variable {LL : Nat} {xs : Nat → Int32} {d : Nat} {n : Nat} {μ : Nat → Nat} {sp : Nat} {fo : Option Nat} {pc lp : Int32} {cl : Nat → Int32} {tk : Nat → Nat} {tc : Nat} {F : Nat → ga_F} {tn : Nat → Int32} {tl : gx_H} {M : ga_M} {k : Nat}
theorem k_G_call_b (x y way addr p : Int32) (hx : (x < 0 ∨ nI 12 ≤ x) ∨ y < 0 ∨ way < 0 ∨ nI 3 < way) : gx_call LL xs (d + 2) z_G_call 0 0 [.ref 0, .int x, .int y, .int way, .int addr, .int p] (gc_h n μ sp fo pc lp cl tk tc F tn tl) (fun r h => r = some (.int (-(nI 1))) ∧ h = (gc_h n μ sp fo pc lp cl tk tc F tn tl)) := by
  rcases pk_ix x (n := 12) (by decide) with c | c | ⟨k, hk, rfl⟩
  · exact gs_G_call _ _ _ _ _ _ (gx_run 6 (And.intro ⟨_, rfl⟩ (gx_c1 (gx_le8 rfl) (k_G_functionOf_n (Or.inl c)) (gx_run 2 (And.intro rfl rfl)))))
  · exact gs_G_call _ _ _ _ _ _ (gx_run 6 (And.intro ⟨_, rfl⟩ (gx_c1 (gx_le8 rfl) (k_G_functionOf_n (Or.inr c)) (gx_run 2 (And.intro rfl rfl)))))
  · refine gs_G_call _ _ _ _ _ _ (gx_run 8 (And.intro ⟨_, rfl⟩ (gx_c1 (gx_le8 rfl) (k_G_functionOf hk) (And.intro (fun _ => gx_run 2 (And.intro rfl rfl)) (fun c1 => gx_run 3 (gx_c1 (gx_le8 rfl) (k_G_isWay way) ?_))))))
    by_cases hw : way < 0 ∨ nI 3 < way
    · rw [if_pos hw]
      exact And.intro (fun c => absurd rfl c) (fun _ => gx_run 2 (And.intro rfl rfl))
    · rcases hx with (h | h) | h | h
      · exact absurd h (nI_pos (by omega))
      · exact absurd h (nI_ge hk (by omega))
      · exact absurd h c1
      · exact absurd h hw
/-- up to the counts -/
theorem k_G_call_p {m : Nat} {Q : gx_Q} (way addr p : Int32) (hk : k < 12) (hm : m < 2147483648) (hw : ¬ (way < 0 ∨ nI 3 < way)) (hO : gx_E LL xs (gx_call LL xs (d + 1)) cd_G_call Q 13 [some (.ref 0), some (.int (nI k)), some (.int (nI m)), some (.int way), some (.int addr), some (.int p), some (.ref (5 + 3 * k)), none] [] (gc_h n μ sp fo pc lp cl tk tc F tn tl) 0 0) :
    gx_call LL xs (d + 2) z_G_call 0 0 [.ref 0, .int (nI k), .int (nI m), .int way, .int addr, .int p] (gc_h n μ sp fo pc lp cl tk tc F tn tl) Q := by
  refine gs_G_call _ _ _ _ _ _ (gx_run 8 (And.intro ⟨_, rfl⟩ (gx_c1 (gx_le8 rfl) (k_G_functionOf hk) (And.intro (fun c => absurd c (nI_pos (by omega))) (fun c1 => gx_run 3 (gx_c1 (gx_le8 rfl) (k_G_isWay way) ?_))))))
  rw [if_neg hw]
  exact And.intro (fun _ => hO) (fun c => absurd c (by decide))
theorem k_G_call_n {m : Nat} (way addr p : Int32) (hk : k < 12) (hm : m < 2147483648) (h1 : 0 < m) (hw : ¬ (way < 0 ∨ nI 3 < way)) : gx_call LL xs (d + 2) z_G_call 0 0 [.ref 0, .int (nI k), .int (nI m), .int way, .int addr, .int p] (gc_h n μ sp none pc lp cl tk tc F tn tl) (fun r h => r = some (.int (-(nI 16))) ∧ h = (gc_h n μ sp none pc lp cl tk tc F tn tl)) :=
  k_G_call_p way addr p hk hm hw (gx_run 2 (And.intro (fun c => absurd c (nI_nle h1 (by omega))) (fun _ => gx_run 4 (And.intro (fun c => absurd rfl c) (fun _ => gx_run 2 (And.intro rfl rfl))))))
/-- up to the function's kind -/
theorem k_G_call_q {m : Nat} {Q : gx_Q} (way addr p : Int32) (hmk : ga_mk μ sp M) (htk : ga_tk tk M) (hs : sp ≤ n) (hn : n ≤ 1024) (hμ : ∀ i, μ i < 256) (hk : k < 12) (hm : m < 2147483648) (hw : ¬ (way < 0 ∨ nI 3 < way)) (hfr : m = 0 ∨ ga_top M ≠ none)
    (hO : gx_E LL xs (gx_call LL xs (d + 6)) cd_G_call Q 24 [some (.ref 0), some (.int (nI k)), some (.int (nI m)), some (.int way), some (.int addr), some (.int p), some (.ref (5 + 3 * k)), none] [.int (nI (ga_vc μ sp M)), .int (nI m)] (gc_h n μ sp (ga_top M) pc lp cl tk (ga_tc M) F tn tl) 0 0) :
    gx_call LL xs (d + 7) z_G_call 0 0 [.ref 0, .int (nI k), .int (nI m), .int way, .int addr, .int p] (gc_h n μ sp (ga_top M) pc lp cl tk (ga_tc M) F tn tl) Q := by
  have hvc := k_G_valueCount (LL := LL) (xs := xs) (d := d + 1) (n := n) (pc := pc) (lp := lp) (cl := cl) (F := F) (tn := tn) (tl := tl) hmk htk hs hn hμ
  have rest : gx_E LL xs (gx_call LL xs (d + 6)) cd_G_call Q 21 [some (.ref 0), some (.int (nI k)), some (.int (nI m)), some (.int way), some (.int addr), some (.int p), some (.ref (5 + 3 * k)), none] [] (gc_h n μ sp (ga_top M) pc lp cl tk (ga_tc M) F tn tl) 0 0 :=
    gx_run 3 (And.intro ⟨_, rfl⟩ (gx_c1 (gx_le8 rfl) hvc hO))
  refine k_G_call_p (d := d + 5) way addr p hk hm hw ?_
  rcases hfr with rfl | hfr
  · exact gx_run 2 (And.intro (fun _ => rest) (fun c => absurd (by decide) c))
  · cases hf : ga_top M with
    | none => exact absurd hf hfr
    | some f =>
      have hlt := ga_top_lt hmk hf
      rw [hf] at rest
      exact gx_run 2 (And.intro (fun _ => rest) (fun _ => gx_run 4 (And.intro (fun _ => rest) (fun c => absurd c (ga_fp_none (by omega))))))
theorem k_G_call_u {m : Nat} (way addr p : Int32) (hmk : ga_mk μ sp M) (htk : ga_tk tk M) (hs : sp ≤ n) (hn : n ≤ 1024) (hμ : ∀ i, μ i < 256) (hk : k < 12) (hm : m < 2147483648) (hw : ¬ (way < 0 ∨ nI 3 < way)) (hfr : m = 0 ∨ ga_top M ≠ none) (hu : ga_vc μ sp M < m) :
    gx_call LL xs (d + 7) z_G_call 0 0 [.ref 0, .int (nI k), .int (nI m), .int way, .int addr, .int p] (gc_h n μ sp (ga_top M) pc lp cl tk (ga_tc M) F tn tl) (fun r h => r = some (.int (-(nI 12))) ∧ h = (gc_h n μ sp (ga_top M) pc lp cl tk (ga_tc M) F tn tl)) :=
  k_G_call_q way addr p hmk htk hs hn hμ hk hm hw hfr (gx_run 1 (And.intro (fun c => absurd c (nI_ge hu hm)) (fun _ => gx_run 2 (And.intro rfl rfl))))
theorem k_G_call_a {m : Nat} (way addr p : Int32) (hmk : ga_mk μ sp M) (htk : ga_tk tk M) (hs : sp ≤ n) (hn : n ≤ 1024) (hμ : ∀ i, μ i < 256) (hk : k < 12) (hw : ¬ (way < 0 ∨ nI 3 < way)) (hfr : m = 0 ∨ ga_top M ≠ none) (hu : m ≤ ga_vc μ sp M) (ha : (F k).2.1 = 1 ∨ (F k).2.1 = 2 ∨ (F k).2.1 = 3) {r0 : Int32} {h0 : gx_H}
    (hc : gx_call LL xs (d + 6) z_G_callAccelerated 0 0 [.ref 0, .ref (5 + 3 * k), .int (nI m), .int way, .int addr] (gc_h n μ sp (ga_top M) pc lp cl tk (ga_tc M) F tn tl) (fun r h => r = some (.int r0) ∧ h = h0)) :
    gx_call LL xs (d + 7) z_G_call 0 0 [.ref 0, .int (nI k), .int (nI m), .int way, .int addr, .int p] (gc_h n μ sp (ga_top M) pc lp cl tk (ga_tc M) F tn tl) (fun r h => r = some (.int r0) ∧ h = h0) := by
  have hvl := ga_vc_le hmk
  have c1 := k_F_isAccelerated (LL := LL) (xs := xs) (d := d + 5) (n := n) (μ := μ) (sp := sp) (fo := ga_top M) (pc := pc) (lp := lp) (cl := cl) (tk := tk) (tc := ga_tc M) (F := F) (tn := tn) (tl := tl) hk (by omega)
  rw [if_neg (by omega)] at c1
  refine k_G_call_q way addr p hmk htk hs hn hμ hk (by omega) hw hfr (gx_run 1 (And.intro (fun _ => ?_) (fun c => absurd (nI_le hu (by omega)) c)))
  exact gx_run 3 (And.intro ⟨_, gc_at_o hk⟩ (gx_c1 (gx_le8 rfl) c1 (And.intro (fun c => absurd c (by decide)) (fun _ => gx_run 7 (And.intro ⟨_, rfl⟩ (gx_c1 (gx_le8 rfl) hc (And.intro rfl rfl)))))))
theorem k_G_call_h {m : Nat} (way addr p : Int32) (hmk : ga_mk μ sp M) (htk : ga_tk tk M) (hs : sp ≤ n) (hn : n ≤ 1024) (hμ : ∀ i, μ i < 256) (hk : k < 12) (hwf : ga_wf (F k)) (hw : ¬ (way < 0 ∨ nI 3 < way)) (hfr : m = 0 ∨ ga_top M ≠ none) (hu : m ≤ ga_vc μ sp M) (ha : (F k).2.1 = 0) (hh : ¬ ((F k).1 = 192 ∨ (F k).1 = 193)) :
    gx_call LL xs (d + 7) z_G_call 0 0 [.ref 0, .int (nI k), .int (nI m), .int way, .int addr, .int p] (gc_h n μ sp (ga_top M) pc lp cl tk (ga_tc M) F tn tl) (fun r h => r = some (.int (-(nI 11))) ∧ h = (gc_h n μ sp (ga_top M) pc lp cl tk (ga_tc M) F tn tl)) := by
  have hvl := ga_vc_le hmk
  have c1 := k_F_isAccelerated (LL := LL) (xs := xs) (d := d + 5) (n := n) (μ := μ) (sp := sp) (fo := ga_top M) (pc := pc) (lp := lp) (cl := cl) (tk := tk) (tc := ga_tc M) (F := F) (tn := tn) (tl := tl) hk (by omega)
  rw [if_pos ha] at c1
  have c2 := k_F_hasFrameHead (LL := LL) (xs := xs) (d := d + 5) (n := n) (μ := μ) (sp := sp) (fo := ga_top M) (pc := pc) (lp := lp) (cl := cl) (tk := tk) (tc := ga_tc M) (F := F) (tn := tn) (tl := tl) hk hwf.1
  rw [if_neg hh] at c2
  refine k_G_call_q way addr p hmk htk hs hn hμ hk (by omega) hw hfr (gx_run 1 (And.intro (fun _ => ?_) (fun c => absurd (nI_le hu (by omega)) c)))
  refine gx_run 3 (And.intro ⟨_, gc_at_o hk⟩ (gx_c1 (gx_le8 rfl) c1 (And.intro (fun _ => ?_) (fun c => absurd rfl c))))
  exact gx_run 3 (And.intro ⟨_, gc_at_o hk⟩ (gx_c1 (gx_le8 rfl) c2 (And.intro (fun c => absurd rfl c) (fun _ => gx_run 2 (And.intro rfl rfl)))))
/-- up to the room -/
theorem k_G_call_r {m : Nat} {Q : gx_Q} {r0 : Int32} (way addr p : Int32) (hmk : ga_mk μ sp M) (htk : ga_tk tk M) (hs : sp ≤ n) (hn : n ≤ 1024) (hμ : ∀ i, μ i < 256) (hk : k < 12) (hwf : ga_wf (F k)) (hw : ¬ (way < 0 ∨ nI 3 < way)) (hfr : m = 0 ∨ ga_top M ≠ none) (hu : m ≤ ga_vc μ sp M) (ha : (F k).2.1 = 0) (hh : (F k).1 = 192 ∨ (F k).1 = 193)
    (hrr : gx_call LL xs (d + 6) z_R_reaches 0 0 [.ref 3, .int (nI (sp - 4 * m + 16 + ga_room (F k) m))] (gc_h n μ sp (ga_top M) pc lp cl tk (ga_tc M) F tn tl) (fun r h => r = some (.int r0) ∧ h = (gc_h n μ sp (ga_top M) pc lp cl tk (ga_tc M) F tn tl)))
    (hO : gx_E LL xs (gx_call LL xs (d + 6)) cd_G_call Q 60 [some (.ref 0), some (.int (nI k)), some (.int (nI m)), some (.int way), some (.int addr), some (.int p), some (.ref (5 + 3 * k)), some (.int (nI sp - nI 4 * nI m + nI 16))] [.int r0] (gc_h n μ sp (ga_top M) pc lp cl tk (ga_tc M) F tn tl) 0 0) :
    gx_call LL xs (d + 7) z_G_call 0 0 [.ref 0, .int (nI k), .int (nI m), .int way, .int addr, .int p] (gc_h n μ sp (ga_top M) pc lp cl tk (ga_tc M) F tn tl) Q := by
  have hvl := ga_vc_le hmk
  have c1 := k_F_isAccelerated (LL := LL) (xs := xs) (d := d + 5) (n := n) (μ := μ) (sp := sp) (fo := ga_top M) (pc := pc) (lp := lp) (cl := cl) (tk := tk) (tc := ga_tc M) (F := F) (tn := tn) (tl := tl) hk (by omega)
  rw [if_pos ha] at c1
  have c2 := k_F_hasFrameHead (LL := LL) (xs := xs) (d := d + 5) (n := n) (μ := μ) (sp := sp) (fo := ga_top M) (pc := pc) (lp := lp) (cl := cl) (tk := tk) (tc := ga_tc M) (F := F) (tn := tn) (tl := tl) hk hwf.1
  rw [if_pos hh] at c2
  rw [← nI_add, ← nI_add, ← pk_sub (show 4 * m ≤ sp by omega), ← pk_mul] at hrr
  refine k_G_call_q way addr p hmk htk hs hn hμ hk (by omega) hw hfr (gx_run 1 (And.intro (fun _ => ?_) (fun c => absurd (nI_le hu (by omega)) c)))
  refine gx_run 3 (And.intro ⟨_, gc_at_o hk⟩ (gx_c1 (gx_le8 rfl) c1 (And.intro (fun _ => ?_) (fun c => absurd rfl c))))
  refine gx_run 3 (And.intro ⟨_, gc_at_o hk⟩ (gx_c1 (gx_le8 rfl) c2 (And.intro (fun _ => ?_) (fun c => absurd c (by decide)))))
  exact gx_run 18 (And.intro ⟨_, rfl⟩ (gx_c1 (gx_le8 rfl) k_R_end (And.intro ⟨_, gc_at_o hk⟩ (gx_c1 (gx_le8 rfl) (k_F_bytesWith hk hwf) (And.intro ⟨_, rfl⟩ (gx_c1 (gx_le8 rfl) hrr hO))))))
theorem ga_room_le {f : ga_F} (hw : ga_wf f) {m : Nat} : ga_room f m ≤ 6300 + 4 * (m + 1) := by
  have := ga_len_le hw
  unfold ga_room
  split <;> omega
theorem k_G_call_f {m : Nat} (way addr p : Int32) (hmk : ga_mk μ sp M) (htk : ga_tk tk M) (hs : sp ≤ n) (hn : n ≤ 1024) (hμ : ∀ i, μ i < 256) (hk : k < 12) (hwf : ga_wf (F k)) (hw : ¬ (way < 0 ∨ nI 3 < way)) (hfr : m = 0 ∨ ga_top M ≠ none) (hu : m ≤ ga_vc μ sp M) (ha : (F k).2.1 = 0) (hh : (F k).1 = 192 ∨ (F k).1 = 193) (hfull : n < sp - 4 * m + 16 + ga_room (F k) m) :
    gx_call LL xs (d + 7) z_G_call 0 0 [.ref 0, .int (nI k), .int (nI m), .int way, .int addr, .int p] (gc_h n μ sp (ga_top M) pc lp cl tk (ga_tc M) F tn tl) (fun r h => r = some (.int (-(nI 15))) ∧ h = (gc_h n μ sp (ga_top M) pc lp cl tk (ga_tc M) F tn tl)) := by
  have hvl := ga_vc_le hmk
  have hrl := ga_room_le hwf (m := m)
  exact k_G_call_r way addr p hmk htk hs hn hμ hk hwf hw hfr hu ha hh (k_reaches_f hfull (by omega)) (gx_run 1 (And.intro (fun c => absurd rfl c) (fun _ => gx_run 2 (And.intro rfl rfl))))
theorem k_G_call {m : Nat} (way addr p : Int32) (hmk : ga_mk μ sp M) (htk : ga_tk tk M) (hs : sp ≤ n) (hn : n ≤ 1024) (hμ : ∀ i, μ i < 256) (hk : k < 12) (hwf : ga_wf (F k)) (hw : ¬ (way < 0 ∨ nI 3 < way)) (hfr : m = 0 ∨ ga_top M ≠ none) (hu : m ≤ ga_vc μ sp M) (ha : (F k).2.1 = 0) (hh : (F k).1 = 192 ∨ (F k).1 = 193) (hfull : sp - 4 * m + 16 + ga_room (F k) m ≤ n) :
    gx_call LL xs (d + 7) z_G_call 0 0 [.ref 0, .int (nI k), .int (nI m), .int way, .int addr, .int p] (gc_h n μ sp (ga_top M) pc lp cl tk (ga_tc M) F tn tl) (fun r h => r = some (.int (nI (sp - 4 * m + 16))) ∧ h = (gc_h n (ga_en (F k) (ga_va μ sp) m (ga_st μ (sp - 4 * m) way addr p (ga_fp (ga_top M))) (sp - 4 * m + 16)) (sp - 4 * m + 16 + ga_room (F k) m) (some (sp - 4 * m + 16)) pc lp cl tk (ga_tc M) F (ga_tv μ sp m tn) tl)) := by
  have hvl := ga_vc_le hmk
  rw [← ga_en_cong (ga_tv_va (μ := μ) (sp := sp) (m := m) (tn := tn))]
  refine k_G_call_r way addr p hmk htk hs hn hμ hk hwf hw hfr hu ha hh (k_reaches_t hfull hn) (gx_run 1 (And.intro (fun _ => ?_) (fun c => absurd c (by decide))))
  have c1 := k_G_takeValues (LL := LL) (xs := xs) (d := d + 2) (n := n) (μ := μ) (sp := sp) (fo := ga_top M) (pc := pc) (lp := lp) (cl := cl) (tk := tk) (tc := ga_tc M) (F := F) (tn := tn) (tl := tl) (m := m) (by omega) hs (by omega) hμ
  have c2 := k_G_pushStub (LL := LL) (xs := xs) (d := d + 2) (n := n) (μ := μ) (sp := sp - 4 * m) (fo := ga_top M) (pc := pc) (lp := lp) (cl := cl) (tk := tk) (tc := ga_tc M) (F := F) (tn := ga_tv μ sp m tn) (tl := tl) way addr p (by omega) hn
  have c3 := k_G_pushFrame (LL := LL) (xs := xs) (d := d + 1) (n := n) (μ := ga_st μ (sp - 4 * m) way addr p (ga_fp (ga_top M))) (sp := sp - 4 * m + 16) (fo := ga_top M) (pc := pc) (lp := lp) (cl := cl) (tk := tk) (tc := ga_tc M) (F := F) (tn := ga_tv μ sp m tn) (tl := tl) (m := m) hk hwf hh hfull hn (ga_st_lt hμ) (by omega)
  exact gx_run 15 (And.intro ⟨_, rfl⟩ (gx_c1 (gx_le8 rfl) c1 (And.intro ⟨_, rfl⟩ (gx_c1 (gx_le8 rfl) c2 (And.intro ⟨_, rfl⟩ (gx_c1 (gx_le8 rfl) c3 (And.intro rfl rfl)))))))
/-! tail -/
theorem k_G_tail_b (x y : Int32) (hx : (x < 0 ∨ nI 12 ≤ x) ∨ y < 0) : gx_call LL xs (d + 2) z_G_tail 0 0 [.ref 0, .int x, .int y] (gc_h n μ sp fo pc lp cl tk tc F tn tl) (fun r h => r = some (.int (-(nI 1))) ∧ h = (gc_h n μ sp fo pc lp cl tk tc F tn tl)) := by
  rcases pk_ix x (n := 12) (by decide) with c | c | ⟨k, hk, rfl⟩
  · exact gs_G_tail _ _ _ (gx_run 6 (And.intro ⟨_, rfl⟩ (gx_c1 (gx_le8 rfl) (k_G_functionOf_n (Or.inl c)) (gx_run 2 (And.intro rfl rfl)))))
  · exact gs_G_tail _ _ _ (gx_run 6 (And.intro ⟨_, rfl⟩ (gx_c1 (gx_le8 rfl) (k_G_functionOf_n (Or.inr c)) (gx_run 2 (And.intro rfl rfl)))))
  · refine gs_G_tail _ _ _ (gx_run 8 (And.intro ⟨_, rfl⟩ (gx_c1 (gx_le8 rfl) (k_G_functionOf hk) (And.intro (fun c => ?_) (fun _ => gx_run 2 (And.intro rfl rfl))))))
    rcases hx with (h | h) | h
    · exact absurd h (nI_pos (by omega))
    · exact absurd h (nI_ge hk (by omega))
    · exact absurd h (Int32.not_lt.mpr c)
theorem k_G_tail_n {m : Nat} (hk : k < 12) (hm : m < 2147483648) : gx_call LL xs (d + 2) z_G_tail 0 0 [.ref 0, .int (nI k), .int (nI m)] (gc_h n μ sp none pc lp cl tk tc F tn tl) (fun r h => r = some (.int (-(nI 16))) ∧ h = (gc_h n μ sp none pc lp cl tk tc F tn tl)) :=
  gs_G_tail _ _ _ (gx_run 8 (And.intro ⟨_, rfl⟩ (gx_c1 (gx_le8 rfl) (k_G_functionOf hk) (And.intro (fun _ => gx_run 4 (And.intro (fun c => absurd rfl c) (fun _ => gx_run 2 (And.intro rfl rfl)))) (fun c => absurd (nI_pos' (by omega)) c)))))
theorem k_G_tail_q {m f : Nat} {Q : gx_Q} (hmk : ga_mk μ sp M) (htk : ga_tk tk M) (hs : sp ≤ n) (hn : n ≤ 1024) (hμ : ∀ i, μ i < 256) (hk : k < 12) (hm : m < 2147483648) (hf : ga_top M = some f)
    (hO : gx_E LL xs (gx_call LL xs (d + 6)) cd_G_tail Q 19 [some (.ref 0), some (.int (nI k)), some (.int (nI m)), some (.ref (5 + 3 * k))] [.int (nI (ga_vc μ sp M)), .int (nI m)] (gc_h n μ sp (ga_top M) pc lp cl tk (ga_tc M) F tn tl) 0 0) :
    gx_call LL xs (d + 7) z_G_tail 0 0 [.ref 0, .int (nI k), .int (nI m)] (gc_h n μ sp (ga_top M) pc lp cl tk (ga_tc M) F tn tl) Q := by
  have hvc := k_G_valueCount (LL := LL) (xs := xs) (d := d + 1) (n := n) (pc := pc) (lp := lp) (cl := cl) (F := F) (tn := tn) (tl := tl) hmk htk hs hn hμ
  have hlt := ga_top_lt hmk hf
  rw [hf] at hvc hO ⊢
  refine gs_G_tail _ _ _ (gx_run 8 (And.intro ⟨_, rfl⟩ (gx_c1 (gx_le8 rfl) (k_G_functionOf hk) (And.intro (fun _ => gx_run 4 (And.intro (fun _ => ?_) (fun c => absurd c (ga_fp_none (by omega))))) (fun c => absurd (nI_pos' (by omega)) c)))))
  exact gx_run 3 (And.intro ⟨_, rfl⟩ (gx_c1 (gx_le8 rfl) hvc hO))
theorem k_G_tail_u {m f : Nat} (hmk : ga_mk μ sp M) (htk : ga_tk tk M) (hs : sp ≤ n) (hn : n ≤ 1024) (hμ : ∀ i, μ i < 256) (hk : k < 12) (hm : m < 2147483648) (hf : ga_top M = some f) (hu : ga_vc μ sp M < m) :
    gx_call LL xs (d + 7) z_G_tail 0 0 [.ref 0, .int (nI k), .int (nI m)] (gc_h n μ sp (ga_top M) pc lp cl tk (ga_tc M) F tn tl) (fun r h => r = some (.int (-(nI 12))) ∧ h = (gc_h n μ sp (ga_top M) pc lp cl tk (ga_tc M) F tn tl)) :=
  k_G_tail_q hmk htk hs hn hμ hk hm hf (gx_run 1 (And.intro (fun c => absurd c (nI_ge hu hm)) (fun _ => gx_run 2 (And.intro rfl rfl))))
theorem k_G_tail_a {m f : Nat} (hmk : ga_mk μ sp M) (htk : ga_tk tk M) (hs : sp ≤ n) (hn : n ≤ 1024) (hμ : ∀ i, μ i < 256) (hk : k < 12) (hf : ga_top M = some f) (hu : m ≤ ga_vc μ sp M) (ha : (F k).2.1 = 1 ∨ (F k).2.1 = 2 ∨ (F k).2.1 = 3) {r0 : Int32} {h0 : gx_H}
    (hc : gx_call LL xs (d + 6) z_G_goBack 0 0 [.ref 0, .int (nI f), .int (ga_gb (F k).2.1 (ga_va μ sp) m)] (gc_h n μ sp (ga_top M) pc lp cl tk (ga_tc M) F tn tl) (fun r h => r = some (.int r0) ∧ h = h0)) :
    gx_call LL xs (d + 7) z_G_tail 0 0 [.ref 0, .int (nI k), .int (nI m)] (gc_h n μ sp (ga_top M) pc lp cl tk (ga_tc M) F tn tl) (fun r h => r = some (.int r0) ∧ h = h0) := by
  have hvl := ga_vc_le hmk
  have c1 := k_F_isAccelerated (LL := LL) (xs := xs) (d := d + 5) (n := n) (μ := μ) (sp := sp) (fo := ga_top M) (pc := pc) (lp := lp) (cl := cl) (tk := tk) (tc := ga_tc M) (F := F) (tn := tn) (tl := tl) hk (by omega)
  rw [if_neg (by omega)] at c1
  refine k_G_tail_q hmk htk hs hn hμ hk (by omega) hf (gx_run 1 (And.intro (fun _ => ?_) (fun c => absurd (nI_le hu (by omega)) c)))
  rw [hf] at c1 hc ⊢
  refine gx_run 3 (And.intro ⟨_, gc_at_o hk⟩ (gx_c1 (gx_le8 rfl) c1 (And.intro (fun c => absurd c (by decide)) (fun _ => gx_run 5 (gx_getf rfl (gc_at_o hk) rfl ?_)))))
  exact gx_run 4 (And.intro ⟨_, rfl⟩ (gx_c1 (gx_le8 rfl) (k_G_givenBy (show 4 * m ≤ sp by omega) hs hn hμ ha) (And.intro ⟨_, rfl⟩ (gx_c1 (gx_le8 rfl) hc (And.intro rfl rfl)))))
theorem k_G_tail_h {m f : Nat} (hmk : ga_mk μ sp M) (htk : ga_tk tk M) (hs : sp ≤ n) (hn : n ≤ 1024) (hμ : ∀ i, μ i < 256) (hk : k < 12) (hwf : ga_wf (F k)) (hf : ga_top M = some f) (hu : m ≤ ga_vc μ sp M) (ha : (F k).2.1 = 0) (hh : ¬ ((F k).1 = 192 ∨ (F k).1 = 193)) :
    gx_call LL xs (d + 7) z_G_tail 0 0 [.ref 0, .int (nI k), .int (nI m)] (gc_h n μ sp (ga_top M) pc lp cl tk (ga_tc M) F tn tl) (fun r h => r = some (.int (-(nI 11))) ∧ h = (gc_h n μ sp (ga_top M) pc lp cl tk (ga_tc M) F tn tl)) := by
  have hvl := ga_vc_le hmk
  have c1 := k_F_isAccelerated (LL := LL) (xs := xs) (d := d + 5) (n := n) (μ := μ) (sp := sp) (fo := ga_top M) (pc := pc) (lp := lp) (cl := cl) (tk := tk) (tc := ga_tc M) (F := F) (tn := tn) (tl := tl) hk (by omega)
  rw [if_pos ha] at c1
  have c2 := k_F_hasFrameHead (LL := LL) (xs := xs) (d := d + 5) (n := n) (μ := μ) (sp := sp) (fo := ga_top M) (pc := pc) (lp := lp) (cl := cl) (tk := tk) (tc := ga_tc M) (F := F) (tn := tn) (tl := tl) hk hwf.1
  rw [if_neg hh] at c2
  refine k_G_tail_q hmk htk hs hn hμ hk (by omega) hf (gx_run 1 (And.intro (fun _ => ?_) (fun c => absurd (nI_le hu (by omega)) c)))
  refine gx_run 3 (And.intro ⟨_, gc_at_o hk⟩ (gx_c1 (gx_le8 rfl) c1 (And.intro (fun _ => ?_) (fun c => absurd rfl c))))
  exact gx_run 3 (And.intro ⟨_, gc_at_o hk⟩ (gx_c1 (gx_le8 rfl) c2 (And.intro (fun c => absurd rfl c) (fun _ => gx_run 2 (And.intro rfl rfl)))))
theorem k_G_tail_r {m f : Nat} {Q : gx_Q} {r0 : Int32} (hmk : ga_mk μ sp M) (htk : ga_tk tk M) (hs : sp ≤ n) (hn : n ≤ 1024) (hμ : ∀ i, μ i < 256) (hk : k < 12) (hwf : ga_wf (F k)) (hf : ga_top M = some f) (hu : m ≤ ga_vc μ sp M) (ha : (F k).2.1 = 0) (hh : (F k).1 = 192 ∨ (F k).1 = 193)
    (hrr : gx_call LL xs (d + 6) z_R_reaches 0 0 [.ref 3, .int (nI (f + ga_room (F k) m))] (gc_h n μ sp (ga_top M) pc lp cl tk (ga_tc M) F tn tl) (fun r h => r = some (.int r0) ∧ h = (gc_h n μ sp (ga_top M) pc lp cl tk (ga_tc M) F tn tl)))
    (hO : gx_E LL xs (gx_call LL xs (d + 6)) cd_G_tail Q 49 [some (.ref 0), some (.int (nI k)), some (.int (nI m)), some (.ref (5 + 3 * k))] [.int r0] (gc_h n μ sp (ga_top M) pc lp cl tk (ga_tc M) F tn tl) 0 0) :
    gx_call LL xs (d + 7) z_G_tail 0 0 [.ref 0, .int (nI k), .int (nI m)] (gc_h n μ sp (ga_top M) pc lp cl tk (ga_tc M) F tn tl) Q := by
  have hvl := ga_vc_le hmk
  have c1 := k_F_isAccelerated (LL := LL) (xs := xs) (d := d + 5) (n := n) (μ := μ) (sp := sp) (fo := ga_top M) (pc := pc) (lp := lp) (cl := cl) (tk := tk) (tc := ga_tc M) (F := F) (tn := tn) (tl := tl) hk (by omega)
  rw [if_pos ha] at c1
  have c2 := k_F_hasFrameHead (LL := LL) (xs := xs) (d := d + 5) (n := n) (μ := μ) (sp := sp) (fo := ga_top M) (pc := pc) (lp := lp) (cl := cl) (tk := tk) (tc := ga_tc M) (F := F) (tn := tn) (tl := tl) hk hwf.1
  rw [if_pos hh] at c2
  refine k_G_tail_q hmk htk hs hn hμ hk (by omega) hf (gx_run 1 (And.intro (fun _ => ?_) (fun c => absurd (nI_le hu (by omega)) c)))
  rw [← nI_add] at hrr
  rw [hf] at c1 c2 hrr hO ⊢
  refine gx_run 3 (And.intro ⟨_, gc_at_o hk⟩ (gx_c1 (gx_le8 rfl) c1 (And.intro (fun _ => ?_) (fun c => absurd rfl c))))
  refine gx_run 3 (And.intro ⟨_, gc_at_o hk⟩ (gx_c1 (gx_le8 rfl) c2 (And.intro (fun _ => ?_) (fun c => absurd c (by decide)))))
  exact gx_run 9 (And.intro ⟨_, gc_at_o hk⟩ (gx_c1 (gx_le8 rfl) (k_F_bytesWith hk hwf) (And.intro ⟨_, rfl⟩ (gx_c1 (gx_le8 rfl) hrr hO))))
theorem k_G_tail_f {m f : Nat} (hmk : ga_mk μ sp M) (htk : ga_tk tk M) (hs : sp ≤ n) (hn : n ≤ 1024) (hμ : ∀ i, μ i < 256) (hk : k < 12) (hwf : ga_wf (F k)) (hf : ga_top M = some f) (hu : m ≤ ga_vc μ sp M) (ha : (F k).2.1 = 0) (hh : (F k).1 = 192 ∨ (F k).1 = 193) (hfull : n < f + ga_room (F k) m) :
    gx_call LL xs (d + 7) z_G_tail 0 0 [.ref 0, .int (nI k), .int (nI m)] (gc_h n μ sp (ga_top M) pc lp cl tk (ga_tc M) F tn tl) (fun r h => r = some (.int (-(nI 15))) ∧ h = (gc_h n μ sp (ga_top M) pc lp cl tk (ga_tc M) F tn tl)) := by
  have hvl := ga_vc_le hmk
  have hlt := ga_top_lt hmk hf
  have hrl := ga_room_le hwf (m := m)
  exact k_G_tail_r hmk htk hs hn hμ hk hwf hf hu ha hh (k_reaches_f hfull (by omega)) (gx_run 1 (And.intro (fun c => absurd rfl c) (fun _ => gx_run 2 (And.intro rfl rfl))))
theorem k_G_tail {m f c : Nat} (hmk : ga_mk μ sp M) (htk : ga_tk tk M) (hs : sp ≤ n) (hn : n ≤ 1024) (hμ : ∀ i, μ i < 256) (hk : k < 12) (hwf : ga_wf (F k)) (hf : ga_top M = some f) (hu : m ≤ ga_vc μ sp M) (ha : (F k).2.1 = 0) (hh : (F k).1 = 192 ∨ (F k).1 = 193) (hfull : f + ga_room (F k) m ≤ n)
    (hlow : ∀ c', c = c' + 1 → tk c' < f) (hcc : c ≤ ga_tc M) (hi : ∀ i, c ≤ i → i < ga_tc M → f ≤ tk i ∧ tk i < 2147483648) (hfm : f ≤ sp - 4 * m) :
    gx_call LL xs (d + 7) z_G_tail 0 0 [.ref 0, .int (nI k), .int (nI m)] (gc_h n μ sp (ga_top M) pc lp cl tk (ga_tc M) F tn tl) (fun r h => r = some (.int (nI f)) ∧ h = (gc_h n (ga_en (F k) (ga_va μ sp) m μ f) (f + ga_room (F k) m) (some f) pc lp cl tk c F (ga_tv μ sp m tn) tl)) := by
  have hvl := ga_vc_le hmk
  have hcnt := ga_tc_le hmk
  rw [← ga_en_cong (ga_tv_va (μ := μ) (sp := sp) (m := m) (tn := tn))]
  refine k_G_tail_r hmk htk hs hn hμ hk hwf hf hu ha hh (k_reaches_t hfull hn) (gx_run 1 (And.intro (fun _ => ?_) (fun c => absurd c (by decide))))
  have c1 := k_G_takeValues (LL := LL) (xs := xs) (d := d + 2) (n := n) (μ := μ) (sp := sp) (fo := some f) (pc := pc) (lp := lp) (cl := cl) (tk := tk) (tc := ga_tc M) (F := F) (tn := tn) (tl := tl) (m := m) (by omega) hs (by omega) hμ
  have c2 := k_G_drop (LL := LL) (xs := xs) (d := d + 4) (n := n) (μ := μ) (sp := sp - 4 * m) (fo := some f) (pc := pc) (lp := lp) (cl := cl) (tk := tk) (tc := ga_tc M) (F := F) (tn := ga_tv μ sp m tn) (tl := tl) (p := f) (c := c) (by omega) (by omega) hlow hcc (by omega) hi
  have c3 := k_R_cutTo (LL := LL) (xs := xs) (d := d + 5) (n := n) (μ := μ) (sp := sp - 4 * m) (fo := some f) (pc := pc) (lp := lp) (cl := cl) (tk := tk) (tc := c) (F := F) (tn := ga_tv μ sp m tn) (tl := tl) hfm (by omega)
  have c4 := k_G_pushFrame (LL := LL) (xs := xs) (d := d + 1) (n := n) (μ := μ) (sp := f) (fo := some f) (pc := pc) (lp := lp) (cl := cl) (tk := tk) (tc := c) (F := F) (tn := ga_tv μ sp m tn) (tl := tl) (m := m) hk hwf hh hfull hn hμ (by omega)
  rw [hf]
  exact gx_run 19 (And.intro ⟨_, rfl⟩ (gx_c1 (gx_le8 rfl) c1 (And.intro ⟨_, rfl⟩ (gx_c1 (gx_le8 rfl) c2 (And.intro ⟨_, rfl⟩ (gx_c1 (gx_le8 rfl) c3 (And.intro ⟨_, rfl⟩ (gx_c1 (gx_le8 rfl) c4 (And.intro rfl rfl)))))))))
end GCO
