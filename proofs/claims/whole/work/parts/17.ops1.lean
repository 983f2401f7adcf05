/-! The class's public methods on values, locals, and what can be seen. -/
theorem ga_mk_low {μ ν : Nat → Nat} {lim l2 : Nat} {M : ga_M} (h : ga_mk μ lim M) (hb : ga_base μ M ≤ l2) (hc : ∀ i, i < ga_base μ M → μ i = ν i) : ga_mk ν l2 M := ga_mk_mono hb (ga_mk_cong (ga_mk_base h) hc)
theorem ga_mk_wr {μ : Nat → Nat} {lim l2 a w : Nat} {v : Int32} {M : ga_M} (h : ga_mk μ lim M) (hb : ga_base μ M ≤ l2) (ha : ga_base μ M ≤ a) : ga_mk (ga_wr μ a w v) l2 M := ga_mk_low h hb fun i hi => (ga_wr_out (by omega)).symm
theorem ga_base_low {μ ν : Nat → Nat} {lim : Nat} : ∀ {M : ga_M}, ga_mk μ lim M → (∀ i, i < ga_base μ M → μ i = ν i) → ga_base ν M = ga_base μ M
  | [], _, _ => rfl
  | (true, f) :: es, ⟨h1, h2, h3, h4, h5, h6⟩, h => by
    show f + ga_w ν f = f + ga_w μ f
    rw [ga_w_cong fun i a b => (h i (show i < f + ga_w μ f by omega)).symm]
  | (false, t) :: es, _, _ => rfl
/-- what stands against an act on the last values -/
def ga_e (μ : Nat → Nat) (sp : Nat) (M : ga_M) (x : Int32) : Int32 := if x < 0 then -(nI 1) else if ga_top M = none then -(nI 16) else if nI (ga_vc μ sp M) < x then -(nI 12) else nI 0
theorem ga_vc_le {μ : Nat → Nat} {sp : Nat} {M : ga_M} (h : ga_mk μ sp M) : 4 * ga_vc μ sp M + ga_base μ M ≤ sp := by
  have := ga_base_le h
  unfold ga_vc
  split <;> omega
theorem ga_e0 {μ : Nat → Nat} {sp : Nat} {M : ga_M} {x : Int32} (hs : ga_vc μ sp M < 2147483648) (h : ga_e μ sp M x = nI 0) : ∃ m f, x = nI m ∧ m ≤ ga_vc μ sp M ∧ ga_top M = some f := by
  unfold ga_e at h
  split at h
  · exact absurd h (by decide)
  · rename_i h1
    split at h
    · exact absurd h (by decide)
    · rename_i h2
      split at h
      · exact absurd h (by decide)
      · rename_i h3
        obtain ⟨m, hm, rfl⟩ := nI_of h1
        cases hf : ga_top M with
        | none => exact absurd hf h2
        | some f =>
          refine ⟨m, f, rfl, ?_, rfl⟩
          rcases Nat.lt_or_ge (ga_vc μ sp M) m with c | c
          · exact absurd (nI_lt c hm) h3
          · exact c
/-- the m last values, copied one by one behind them -/
def ga_cp (μ : Nat → Nat) (sp m : Nat) : Nat → (Nat → Nat)
  | 0 => μ
  | i + 1 => ga_wr (ga_cp μ sp m i) (sp + 4 * i) 4 (ga_rd (ga_cp μ sp m i) (sp + 4 * i - 4 * m) 4)
theorem ga_cp_lt {μ : Nat → Nat} {sp m : Nat} (h : ∀ i, μ i < 256) : ∀ k i, ga_cp μ sp m k i < 256
  | 0, i => h i
  | k + 1, i => ga_wr_lt (ga_cp_lt h k) i
theorem ga_cp_low {μ : Nat → Nat} {sp m : Nat} : ∀ {k i : Nat}, i < sp → ga_cp μ sp m k i = μ i
  | 0, _, _ => rfl
  | k + 1, i, h => by
    show ga_wr _ _ _ _ i = _
    rw [ga_wr_out (by omega)]
    exact ga_cp_low h
/-- words laid one behind the other from a on -/
def ga_ws (a : Nat) (V : Nat → Int32) (μ : Nat → Nat) : Nat → (Nat → Nat)
  | 0 => μ
  | p + 1 => ga_wr (ga_ws a V μ p) (a + 4 * p) 4 (V p)
theorem ga_ws_lt {a : Nat} {V : Nat → Int32} {μ : Nat → Nat} (h : ∀ i, μ i < 256) : ∀ k i, ga_ws a V μ k i < 256
  | 0, i => h i
  | k + 1, i => ga_wr_lt (ga_ws_lt h k) i
theorem ga_ws_out {a : Nat} {V : Nat → Int32} {μ : Nat → Nat} : ∀ {k i : Nat}, (i < a ∨ a + 4 * k ≤ i) → ga_ws a V μ k i = μ i
  | 0, _, _ => rfl
  | k + 1, i, h => by
    show ga_wr _ _ _ _ i = _
    rw [ga_wr_out (by omega)]
    exact ga_ws_out (by omega)
section GCK
variable {LL : Nat} {xs : Nat → Int32} {d : Nat} {n : Nat} {μ : Nat → Nat} {sp : Nat} {fo : Option Nat} {pc lp : Int32} {cl : Nat → Int32} {tk : Nat → Nat} {tc : Nat} {F : Nat → ga_F} {tn : Nat → Int32} {tl : gx_H} {M : ga_M}
theorem k_G_popped : gx_call LL xs (d + 1) z_G_popped 0 0 [.ref 0] (gc_h n μ sp fo pc lp cl tk tc F tn tl) (fun r h => r = some (.int lp) ∧ h = (gc_h n μ sp fo pc lp cl tk tc F tn tl)) :=
  gs_G_popped _ (gx_run 3 (And.intro rfl rfl))
theorem k_G_push_n (v : Int32) : gx_call LL xs (d + 1) z_G_push 0 0 [.ref 0, .int v] (gc_h n μ sp none pc lp cl tk tc F tn tl) (fun r h => r = some (.int (-(nI 16))) ∧ h = (gc_h n μ sp none pc lp cl tk tc F tn tl)) :=
  gs_G_push _ _ (gx_run 4 (And.intro (fun c => absurd rfl c) (fun _ => gx_run 2 (And.intro rfl rfl))))
theorem k_G_push_f (v : Int32) {f : Nat} (hf : f < 2147483648) (hs : sp ≤ n) (hn : n ≤ 1024) (hfull : n < sp + 4) : gx_call LL xs (d + 2) z_G_push 0 0 [.ref 0, .int v] (gc_h n μ sp (some f) pc lp cl tk tc F tn tl) (fun r h => r = some (.int (-(nI 15))) ∧ h = (gc_h n μ sp (some f) pc lp cl tk tc F tn tl)) := by
  refine gs_G_push _ _ (gx_run 4 (And.intro (fun _ => ?_) (fun c => absurd c (ga_fp_none hf))))
  refine gx_run 9 (And.intro ⟨_, rfl⟩ (gx_c1 (gx_le8 rfl) k_R_end (And.intro ⟨_, rfl⟩ (gx_c1 (gx_le8 rfl) (k_R_reaches _) ?_))))
  rw [nI_add, if_pos (nI_lt hfull (by omega))]
  exact And.intro (fun c => absurd rfl c) (fun _ => gx_run 2 (And.intro rfl rfl))
theorem k_G_push (v : Int32) {f : Nat} (hmk : ga_mk μ sp M) (htk : ga_tk tk M) (hn : n ≤ 1024) (hμ : ∀ i, μ i < 256) (hf : ga_top M = some f) (hfull : sp + 4 ≤ n) : gx_call LL xs (d + 6) z_G_push 0 0 [.ref 0, .int v] (gc_h n μ sp (ga_top M) pc lp cl tk (ga_tc M) F tn tl) (fun r h => r = some (.int (nI (ga_vc (ga_wr μ sp 4 v) (sp + 4) M))) ∧ h = (gc_h n (ga_wr μ sp 4 v) (sp + 4) (ga_top M) pc lp cl tk (ga_tc M) F tn tl)) := by
  have hlt := ga_top_lt hmk hf
  have hb := ga_base_le hmk
  have hvc := k_G_valueCount (LL := LL) (xs := xs) (d := d) (n := n) (pc := pc) (lp := lp) (cl := cl) (F := F) (tn := tn) (tl := tl) (ga_mk_wr (v := v) (w := 4) (l2 := sp + 4) hmk (by omega) hb) htk hfull hn (ga_wr_lt hμ)
  rw [hf] at hvc ⊢
  refine gs_G_push _ _ (gx_run 4 (And.intro (fun _ => ?_) (fun c => absurd c (ga_fp_none (by omega)))))
  refine gx_run 9 (And.intro ⟨_, rfl⟩ (gx_c1 (gx_le8 rfl) k_R_end (And.intro ⟨_, rfl⟩ (gx_c1 (gx_le8 rfl) (k_R_reaches _) ?_))))
  rw [nI_add, if_neg (nI_nlt hfull (by omega))]
  refine And.intro (fun _ => gx_run 7 (And.intro ⟨_, rfl⟩ (gx_c1 (gx_le8 rfl) (k_R_append hfull (by omega)) (And.intro ⟨_, rfl⟩ (gx_c1 (gx_le8 rfl) hvc (And.intro rfl rfl)))))) (fun c => absurd c (by decide))
theorem k_G_pop_e (hmk : ga_mk μ sp M) (htk : ga_tk tk M) (hs : sp ≤ n) (hn : n ≤ 1024) (hμ : ∀ i, μ i < 256) {y : Int32} (hy : ga_e μ sp M (nI 1) = y) (h0 : ¬ y = 0) : gx_call LL xs (d + 7) z_G_pop 0 0 [.ref 0] (gc_h n μ sp (ga_top M) pc lp cl tk (ga_tc M) F tn tl) (fun r h => r = some (.int y) ∧ h = (gc_h n μ sp (ga_top M) pc lp cl tk (ga_tc M) F tn tl)) := by
  have hfl := k_G_faultOfLast (LL := LL) (xs := xs) (d := d) (pc := pc) (lp := lp) (cl := cl) (F := F) (tn := tn) (tl := tl) (nI 1) hmk htk hs hn hμ
  rw [show (if nI 1 < 0 then -(nI 1) else if ga_top M = none then -(nI 16) else if nI (ga_vc μ sp M) < nI 1 then -(nI 12) else nI 0) = y from hy] at hfl
  exact gs_G_pop _ (gx_run 6 (And.intro ⟨_, rfl⟩ (gx_c1 (gx_le8 rfl) hfl (And.intro (fun c => absurd c h0) (fun _ => gx_run 2 (And.intro rfl rfl))))))
theorem k_G_pop (hmk : ga_mk μ sp M) (htk : ga_tk tk M) (hs : sp ≤ n) (hn : n ≤ 1024) (hμ : ∀ i, μ i < 256) (hy : ga_e μ sp M (nI 1) = nI 0) : gx_call LL xs (d + 7) z_G_pop 0 0 [.ref 0] (gc_h n μ sp (ga_top M) pc lp cl tk (ga_tc M) F tn tl) (fun r h => r = some (.int (nI (ga_vc μ (sp - 4) M))) ∧ h = (gc_h n μ (sp - 4) (ga_top M) pc (ga_rd μ (sp - 4) 4) cl tk (ga_tc M) F tn tl)) := by
  have hfl := k_G_faultOfLast (LL := LL) (xs := xs) (d := d) (pc := pc) (lp := lp) (cl := cl) (F := F) (tn := tn) (tl := tl) (nI 1) hmk htk hs hn hμ
  rw [show (if nI 1 < 0 then -(nI 1) else if ga_top M = none then -(nI 16) else if nI (ga_vc μ sp M) < nI 1 then -(nI 12) else nI 0) = nI 0 from hy] at hfl
  have hvl := ga_vc_le hmk
  obtain ⟨m, f, hm, hm2, hf⟩ := ga_e0 (by omega) hy
  have hm1 : 1 ≤ ga_vc μ sp M := by
    rcases Nat.lt_or_ge (ga_vc μ sp M) 1 with c | c
    · have := hy
      unfold ga_e at this
      rw [if_neg (by decide), if_neg (by rw [hf]; exact fun h => by cases h), if_pos (nI_lt c (by decide))] at this
      exact absurd this (by decide)
    · exact c
  have hc : gx_call LL xs (d + 6) z_R_cutTo 0 0 [.ref 3, .int (nI sp - nI 4)] (gc_h n μ sp (ga_top M) pc (ga_rd μ (sp - 4) 4) cl tk (ga_tc M) F tn tl) (fun r h => r = none ∧ h = (gc_h n μ (sp - 4) (ga_top M) pc (ga_rd μ (sp - 4) 4) cl tk (ga_tc M) F tn tl)) := by
    rw [pk_sub (by omega)]
    exact k_R_cutTo (by omega) (by omega)
  have hmk2 : ga_mk μ (sp - 4) M := ga_mk_low hmk (by omega) fun _ _ => rfl
  have hvc := k_G_valueCount (LL := LL) (xs := xs) (d := d + 1) (n := n) (pc := pc) (lp := ga_rd μ (sp - 4) 4) (cl := cl) (F := F) (tn := tn) (tl := tl) hmk2 htk (by omega) hn hμ
  refine gs_G_pop _ (gx_run 6 (And.intro ⟨_, rfl⟩ (gx_c1 (gx_le8 rfl) hfl (And.intro (fun _ => ?_) (fun c => absurd rfl c)))))
  exact gx_run 16 (And.intro ⟨_, rfl⟩ (gx_c1 (gx_le8 rfl) (k_G_valueFromLast (j := 0) (by omega) hs (by omega) hμ) (And.intro ⟨_, rfl⟩ (gx_c1 (gx_le8 rfl) k_R_end (And.intro ⟨_, rfl⟩ (gx_c1 (gx_le8 rfl) hc (And.intro ⟨_, rfl⟩ (gx_c1 (gx_le8 rfl) hvc (And.intro rfl rfl)))))))))
theorem k_G_peek_n (x : Int32) : gx_call LL xs (d + 1) z_G_peek 0 0 [.ref 0, .int x] (gc_h n μ sp none pc lp cl tk tc F tn tl) (fun r h => r = some (.int (-(nI 16))) ∧ h = (gc_h n μ sp none pc lp cl tk tc F tn tl)) :=
  gs_G_peek _ _ (gx_run 4 (And.intro (fun c => absurd rfl c) (fun _ => gx_run 2 (And.intro rfl rfl))))
theorem k_G_peek_e (x : Int32) {f : Nat} (hmk : ga_mk μ sp M) (htk : ga_tk tk M) (hs : sp ≤ n) (hn : n ≤ 1024) (hμ : ∀ i, μ i < 256) (hf : ga_top M = some f) (hx : x < 0 ∨ nI (ga_vc μ sp M) ≤ x) : gx_call LL xs (d + 6) z_G_peek 0 0 [.ref 0, .int x] (gc_h n μ sp (ga_top M) pc lp cl tk (ga_tc M) F tn tl) (fun r h => r = some (.int (-(nI 12))) ∧ h = (gc_h n μ sp (ga_top M) pc lp cl tk (ga_tc M) F tn tl)) := by
  have hlt := ga_top_lt hmk hf
  have hvc := k_G_valueCount (LL := LL) (xs := xs) (d := d) (n := n) (pc := pc) (lp := lp) (cl := cl) (F := F) (tn := tn) (tl := tl) hmk htk hs hn hμ
  rw [hf] at hvc ⊢
  refine gs_G_peek _ _ (gx_run 4 (And.intro (fun _ => ?_) (fun c => absurd c (ga_fp_none (by omega)))))
  refine gx_run 2 (And.intro (fun _ => gx_run 2 (And.intro rfl rfl)) (fun c1 => ?_))
  refine gx_run 4 (And.intro ⟨_, rfl⟩ (gx_c1 (gx_le8 rfl) hvc (And.intro (fun c => ?_) (fun _ => gx_run 2 (And.intro rfl rfl)))))
  rcases hx with hx | hx
  · exact absurd hx c1
  · exact absurd c (Int32.not_lt.mpr hx)
theorem k_G_peek {f j : Nat} (hmk : ga_mk μ sp M) (htk : ga_tk tk M) (hs : sp ≤ n) (hn : n ≤ 1024) (hμ : ∀ i, μ i < 256) (hf : ga_top M = some f) (hj : j < ga_vc μ sp M) : gx_call LL xs (d + 6) z_G_peek 0 0 [.ref 0, .int (nI j)] (gc_h n μ sp (ga_top M) pc lp cl tk (ga_tc M) F tn tl) (fun r h => r = some (.int (nI 1)) ∧ h = (gc_h n μ sp (ga_top M) pc (ga_rd μ (sp - 4 * (j + 1)) 4) cl tk (ga_tc M) F tn tl)) := by
  have hlt := ga_top_lt hmk hf
  have hvl := ga_vc_le hmk
  have hvc := k_G_valueCount (LL := LL) (xs := xs) (d := d) (n := n) (pc := pc) (lp := lp) (cl := cl) (F := F) (tn := tn) (tl := tl) hmk htk hs hn hμ
  rw [hf] at hvc ⊢
  refine gs_G_peek _ _ (gx_run 4 (And.intro (fun _ => ?_) (fun c => absurd c (ga_fp_none (by omega)))))
  refine gx_run 2 (And.intro (fun c => absurd c (nI_pos (by omega))) (fun c1 => ?_))
  refine gx_run 4 (And.intro ⟨_, rfl⟩ (gx_c1 (gx_le8 rfl) hvc (And.intro (fun _ => ?_) (fun c => absurd (nI_lt hj (by omega)) c))))
  exact gx_run 7 (And.intro ⟨_, rfl⟩ (gx_c1 (gx_le8 rfl) (k_G_valueFromLast (j := j) (by omega) hs (by omega) hμ) (And.intro rfl rfl)))
theorem k_G_copy_e (x : Int32) (hmk : ga_mk μ sp M) (htk : ga_tk tk M) (hs : sp ≤ n) (hn : n ≤ 1024) (hμ : ∀ i, μ i < 256) {y : Int32} (hy : ga_e μ sp M x = y) (h0 : ¬ y = 0) : gx_call LL xs (d + 7) z_G_copy 0 0 [.ref 0, .int x] (gc_h n μ sp (ga_top M) pc lp cl tk (ga_tc M) F tn tl) (fun r h => r = some (.int y) ∧ h = (gc_h n μ sp (ga_top M) pc lp cl tk (ga_tc M) F tn tl)) := by
  have hfl := k_G_faultOfLast (LL := LL) (xs := xs) (d := d) (pc := pc) (lp := lp) (cl := cl) (F := F) (tn := tn) (tl := tl) x hmk htk hs hn hμ
  rw [show (if x < 0 then -(nI 1) else if ga_top M = none then -(nI 16) else if nI (ga_vc μ sp M) < x then -(nI 12) else nI 0) = y from hy] at hfl
  exact gs_G_copy _ _ (gx_run 6 (And.intro ⟨_, rfl⟩ (gx_c1 (gx_le8 rfl) hfl (And.intro (fun c => absurd c h0) (fun _ => gx_run 2 (And.intro rfl rfl))))))
theorem k_G_copy_f {m : Nat} (hmk : ga_mk μ sp M) (htk : ga_tk tk M) (hs : sp ≤ n) (hn : n ≤ 1024) (hμ : ∀ i, μ i < 256) (hy : ga_e μ sp M (nI m) = nI 0) (hm : m ≤ ga_vc μ sp M) (hfull : n < sp + 4 * m) : gx_call LL xs (d + 7) z_G_copy 0 0 [.ref 0, .int (nI m)] (gc_h n μ sp (ga_top M) pc lp cl tk (ga_tc M) F tn tl) (fun r h => r = some (.int (-(nI 15))) ∧ h = (gc_h n μ sp (ga_top M) pc lp cl tk (ga_tc M) F tn tl)) := by
  have hfl := k_G_faultOfLast (LL := LL) (xs := xs) (d := d) (pc := pc) (lp := lp) (cl := cl) (F := F) (tn := tn) (tl := tl) (nI m) hmk htk hs hn hμ
  rw [show (if nI m < 0 then -(nI 1) else if ga_top M = none then -(nI 16) else if nI (ga_vc μ sp M) < nI m then -(nI 12) else nI 0) = nI 0 from hy] at hfl
  have hvl := ga_vc_le hmk
  refine gs_G_copy _ _ (gx_run 6 (And.intro ⟨_, rfl⟩ (gx_c1 (gx_le8 rfl) hfl (And.intro (fun _ => ?_) (fun c => absurd rfl c)))))
  refine gx_run 11 (And.intro ⟨_, rfl⟩ (gx_c1 (gx_le8 rfl) k_R_end (And.intro ⟨_, rfl⟩ (gx_c1 (gx_le8 rfl) (k_R_reaches _) ?_))))
  rw [pk_mul, nI_add, if_pos (nI_lt hfull (by omega))]
  exact And.intro (fun c => absurd rfl c) (fun _ => gx_run 2 (And.intro rfl rfl))
theorem k_G_copy_l {m : Nat} (hmk : ga_mk μ sp M) (htk : ga_tk tk M) (hs : sp + 4 * m ≤ n) (hms : 4 * m ≤ sp) (hn : n ≤ 1024) (hμ : ∀ i, μ i < 256) (w0 : Option Value) : ∀ (q i : Nat), i + q = m →
    gx_E LL xs (gx_call LL xs (d + 5)) cd_G_copy (fun r h => r = some (.int (nI (ga_vc (ga_cp μ sp m m) (sp + 4 * m) M))) ∧ h = (gc_h n (ga_cp μ sp m m) (sp + 4 * m) (ga_top M) pc lp cl tk (ga_tc M) F tn tl)) 23 [some (.ref 0), some (.int (nI m)), w0, some (.int (nI i))] [] (gc_h n (ga_cp μ sp m i) (sp + 4 * i) (ga_top M) pc lp cl tk (ga_tc M) F tn tl) 0 0 := by
  intro q
  induction q with
  | zero =>
    intro i hq
    obtain rfl : i = m := by omega
    have hb := ga_base_le hmk
    have hmk2 : ga_mk (ga_cp μ sp i i) (sp + 4 * i) M := ga_mk_low hmk (by omega) fun j hj => (ga_cp_low (by omega)).symm
    exact gx_run 3 (And.intro (fun _ => gx_run 3 (And.intro ⟨_, rfl⟩ (gx_c1 (gx_le8 rfl) (k_G_valueCount hmk2 htk hs hn (ga_cp_lt hμ i)) (And.intro rfl rfl)))) (fun c => absurd (nI_le (Nat.le_refl i) (by omega)) c))
  | succ q ih =>
    intro i hq
    have hc : gx_call LL xs (d + 5) z_G_valueFromLast 0 0 [.ref 0, .int (nI m - nI 1)] (gc_h n (ga_cp μ sp m i) (sp + 4 * i) (ga_top M) pc lp cl tk (ga_tc M) F tn tl) (fun r h => r = some (.int (ga_rd (ga_cp μ sp m i) (sp + 4 * i - 4 * m) 4)) ∧ h = (gc_h n (ga_cp μ sp m i) (sp + 4 * i) (ga_top M) pc lp cl tk (ga_tc M) F tn tl)) := by
      have h1 := k_G_valueFromLast (LL := LL) (xs := xs) (d := d + 2) (n := n) (μ := ga_cp μ sp m i) (sp := sp + 4 * i) (fo := ga_top M) (pc := pc) (lp := lp) (cl := cl) (tk := tk) (tc := ga_tc M) (F := F) (tn := tn) (tl := tl) (j := m - 1) (by omega) (by omega) (by omega) (ga_cp_lt hμ i)
      rw [show 4 * (m - 1 + 1) = 4 * m by omega, ← pk_sub (show 1 ≤ m by omega)] at h1
      exact h1
    refine gx_run 3 (And.intro (fun c => absurd c (nI_ge (show i < m by omega) (by omega))) (fun _ => gx_run 10 (And.intro ⟨_, rfl⟩ (gx_c1 (gx_le8 rfl) hc (And.intro ⟨_, rfl⟩ (gx_c1 (gx_le8 rfl) (k_R_append (show sp + 4 * i + 4 ≤ n by omega) (by omega)) ?_))))))
    have h9 := ih (i + 1) (by omega)
    rw [← nI_add i 1, show sp + 4 * (i + 1) = sp + 4 * i + 4 by omega] at h9
    exact h9
theorem k_G_copy {m : Nat} (hmk : ga_mk μ sp M) (htk : ga_tk tk M) (hn : n ≤ 1024) (hμ : ∀ i, μ i < 256) (hy : ga_e μ sp M (nI m) = nI 0) (hm : m ≤ ga_vc μ sp M) (hfull : sp + 4 * m ≤ n) : gx_call LL xs (d + 7) z_G_copy 0 0 [.ref 0, .int (nI m)] (gc_h n μ sp (ga_top M) pc lp cl tk (ga_tc M) F tn tl) (fun r h => r = some (.int (nI (ga_vc (ga_cp μ sp m m) (sp + 4 * m) M))) ∧ h = (gc_h n (ga_cp μ sp m m) (sp + 4 * m) (ga_top M) pc lp cl tk (ga_tc M) F tn tl)) := by
  have hfl := k_G_faultOfLast (LL := LL) (xs := xs) (d := d) (pc := pc) (lp := lp) (cl := cl) (F := F) (tn := tn) (tl := tl) (nI m) hmk htk (show sp ≤ n by omega) hn hμ
  rw [show (if nI m < 0 then -(nI 1) else if ga_top M = none then -(nI 16) else if nI (ga_vc μ sp M) < nI m then -(nI 12) else nI 0) = nI 0 from hy] at hfl
  have hvl := ga_vc_le hmk
  refine gs_G_copy _ _ (gx_run 6 (And.intro ⟨_, rfl⟩ (gx_c1 (gx_le8 rfl) hfl (And.intro (fun _ => ?_) (fun c => absurd rfl c)))))
  refine gx_run 11 (And.intro ⟨_, rfl⟩ (gx_c1 (gx_le8 rfl) k_R_end (And.intro ⟨_, rfl⟩ (gx_c1 (gx_le8 rfl) (k_R_reaches _) ?_))))
  rw [pk_mul, nI_add, if_neg (nI_nlt hfull (by omega))]
  exact And.intro (fun _ => gx_run 2 (k_G_copy_l (d := d + 1) hmk htk hfull (by omega) hn hμ _ m 0 (Nat.zero_add m))) (fun c => absurd c (by decide))
end GCK
