/-! The reference: values, locals, what can be seen. -/
theorem ga_by4 {μ ν : Nat → Nat} {a b : Nat} {v : Int32} {j : Nat} (hj : j < 4) : ga_wr μ a 4 v (a + j) = ga_wr ν b 4 v (b + j) := by
  rcases (show j = 0 ∨ j = 1 ∨ j = 2 ∨ j = 3 by omega) with rfl | rfl | rfl | rfl <;> simp [ga_wr, va_up]
/-- m words laid from a on, word i at place i + u, counted round -/
def ga_sg (m u i : Nat) : Nat := if i + u < m then i + u else i + u - m
def ga_wq (a m u : Nat) (V : Nat → Int32) (μ : Nat → Nat) : Nat → (Nat → Nat)
  | 0 => μ
  | i + 1 => ga_wr (ga_wq a m u V μ i) (a + 4 * ga_sg m u i) 4 (V i)
theorem ga_sg_lt {m u i : Nat} (hu : u < m) (hi : i < m) : ga_sg m u i < m := by
  unfold ga_sg
  split <;> omega
theorem ga_wq_out {a m u : Nat} {V : Nat → Int32} {μ : Nat → Nat} (hu : u < m) : ∀ {k i : Nat}, k ≤ m → (i < a ∨ a + 4 * m ≤ i) → ga_wq a m u V μ k i = μ i
  | 0, _, _, _ => rfl
  | k + 1, i, hk, h => by
    have := ga_sg_lt (i := k) hu (by omega)
    show ga_wr _ _ _ _ i = _
    rw [ga_wr_out (by omega)]
    exact ga_wq_out hu (by omega) h
theorem ga_wq_lt {a m u : Nat} {V : Nat → Int32} {μ : Nat → Nat} (h : ∀ i, μ i < 256) : ∀ k i, ga_wq a m u V μ k i < 256
  | 0, i => h i
  | k + 1, i => ga_wr_lt (ga_wq_lt h k) i
theorem ga_wq_at {a m u : Nat} {V : Nat → Int32} {μ : Nat → Nat} (hu : u < m) {q j : Nat} (hj : j < 4) : ∀ {k : Nat}, k ≤ m → q < k → ga_wq a m u V μ k (a + 4 * ga_sg m u q + j) = ga_wr μ 0 4 (V q) (0 + j)
  | k + 1, hk, hq => by
    show ga_wr _ _ _ _ _ = _
    by_cases e : q = k
    · subst e
      exact ga_by4 hj
    · have h1 : ga_sg m u q ≠ ga_sg m u k := by
        unfold ga_sg
        split <;> split <;> omega
      rw [ga_wr_out (by omega)]
      exact ga_wq_at hu hj (by omega) (by omega)
theorem ga_ws_at {a : Nat} {V : Nat → Int32} {μ : Nat → Nat} {q j : Nat} (hj : j < 4) : ∀ {k : Nat}, q < k → ga_ws a V μ k (a + 4 * q + j) = ga_wr μ 0 4 (V q) (0 + j)
  | k + 1, hq => by
    show ga_wr _ _ _ _ _ = _
    by_cases e : q = k
    · subst e
      exact ga_by4 hj
    · rw [ga_wr_out (by omega)]
      exact ga_ws_at hj (by omega)
/-- both ways to roll lay the same bytes -/
theorem ga_wq_ws {μ : Nat → Nat} {sp m u : Nat} (hms : 4 * m ≤ sp) (hu : u < m) : ga_wq (sp - 4 * m) m u (fun i => ga_rd μ (sp - 4 * m + 4 * i) 4) μ m = ga_ws (sp - 4 * m) (ga_rv μ sp m u) μ m := by
  funext i
  by_cases h : i < sp - 4 * m ∨ sp - 4 * m + 4 * m ≤ i
  · rw [ga_wq_out hu (Nat.le_refl m) h, ga_ws_out h]
  · obtain ⟨p, j, hp, hj, rfl⟩ : ∃ p j, p < m ∧ j < 4 ∧ i = sp - 4 * m + 4 * p + j := ⟨(i - (sp - 4 * m)) / 4, (i - (sp - 4 * m)) % 4, by omega, by omega, by omega⟩
    obtain ⟨q, hq, e⟩ : ∃ q, q < m ∧ ga_sg m u q = p := by
      by_cases c : u ≤ p
      · exact ⟨p - u, by omega, by unfold ga_sg; rw [if_pos (by omega)]; omega⟩
      · exact ⟨p + m - u, by omega, by unfold ga_sg; rw [if_neg (by omega)]; omega⟩
    have h1 := ga_wq_at (a := sp - 4 * m) (V := fun i => ga_rd μ (sp - 4 * m + 4 * i) 4) (μ := μ) hu hj (Nat.le_refl m) hq
    rw [e] at h1
    rw [h1, ga_ws_at hj hp]
    have e2 : sp - 4 * m + 4 * q = sp - 4 * (ga_rj m u p + 1) := by
      rw [← e]
      unfold ga_rj ga_sg
      split <;> split <;> omega
    show ga_wr μ 0 4 (ga_rd μ (sp - 4 * m + 4 * q) 4) (0 + j) = ga_wr μ 0 4 (ga_rv μ sp m u p) (0 + j)
    rw [e2]
    rfl
theorem ga_rmn {x m : Nat} (hx : x < 2147483648) (hm : 0 < m) (h2 : m < 2147483648) : nI x - nI x / nI m * nI m = nI (x % m) := by
  have h := Nat.div_add_mod x m
  rw [Nat.mul_comm] at h
  rw [pk_div hx hm h2, pk_mul, pk_sub (by omega)]
  congr 1
  omega
theorem ga_md {m u k : Nat} (hu : u < m) (hk : k < m) : (k + u) % m = ga_sg m u k := by
  unfold ga_sg
  by_cases h : k + u < m
  · rw [if_pos h, Nat.mod_eq_of_lt h]
  · rw [if_neg h, Nat.mod_eq_sub_mod (by omega), Nat.mod_eq_of_lt (by omega)]
theorem ga_fm2 (x : Int32) {m : Nat} (hm : 0 < m) (h2 : m < 1000000000) : (x - x / nI m * nI m + nI m) - (x - x / nI m * nI m + nI m) / nI m * nI m = nI (ga_fm x m) := by
  have hr := ga_rem x hm (by omega)
  have hmi : (nI m).toInt = (m : Int) := nI_toInt (by omega)
  obtain ⟨t, ht, h1, hp, hn⟩ := ga_tm x.toInt hm
  have hb : -(m : Int) < x.toInt.tmod m ∧ x.toInt.tmod m < m := by
    rcases Int.le_total 0 x.toInt with h | h
    · have := hp h; omega
    · have := hn h; omega
  have e : x - x / nI m * nI m + nI m = nI (x.toInt.tmod m + m).toNat := by
    refine gx_nIx ?_ (by omega)
    rw [Int32.toInt_add, hr, hmi, ga_bm (by omega) (by omega)]
    omega
  rw [e, ga_rmn (by omega) hm (by omega)]
  congr 1
  unfold ga_fm
  split
  · rw [Nat.mod_eq_of_lt (by omega)]
  · rw [Nat.mod_eq_sub_mod (by omega), Nat.mod_eq_of_lt (by omega)]
    omega
section GMD
variable {LL : Nat} {xs : Nat → Int32} {d : Nat} {pre : Nat → gx_A} {n : Nat} {μ : Nat → Nat} {sp : Nat} {fo : Option Nat} {pc lp : Int32} {cl : Nat → Int32} {tk : Nat → Nat} {tc : Nat} {F : Nat → ga_F} {gv : Nat → Int32} {k : Nat} {M : ga_M}
theorem m_f1 {h : gx_H} : gx_call LL xs (d + 1) z_M_fault 0 0 [.int (nI 1)] h (fun r h' => r = some (.int (-(nI 11))) ∧ h' = h) := by
  have := m_fault (LL := LL) (xs := xs) (d := d) (nI 1) (h := h)
  rw [show -(nI 10) - nI 1 = -(nI 11) by decide] at this
  exact this
theorem m_f2 {h : gx_H} : gx_call LL xs (d + 1) z_M_fault 0 0 [.int (nI 2)] h (fun r h' => r = some (.int (-(nI 12))) ∧ h' = h) := by
  have := m_fault (LL := LL) (xs := xs) (d := d) (nI 2) (h := h)
  rw [show -(nI 10) - nI 2 = -(nI 12) by decide] at this
  exact this
theorem m_f3 {h : gx_H} : gx_call LL xs (d + 1) z_M_fault 0 0 [.int (nI 3)] h (fun r h' => r = some (.int (-(nI 13))) ∧ h' = h) := by
  have := m_fault (LL := LL) (xs := xs) (d := d) (nI 3) (h := h)
  rw [show -(nI 10) - nI 3 = -(nI 13) by decide] at this
  exact this
theorem m_f4 {h : gx_H} : gx_call LL xs (d + 1) z_M_fault 0 0 [.int (nI 4)] h (fun r h' => r = some (.int (-(nI 14))) ∧ h' = h) := by
  have := m_fault (LL := LL) (xs := xs) (d := d) (nI 4) (h := h)
  rw [show -(nI 10) - nI 4 = -(nI 14) by decide] at this
  exact this
theorem m_f5 {h : gx_H} : gx_call LL xs (d + 1) z_M_fault 0 0 [.int (nI 5)] h (fun r h' => r = some (.int (-(nI 15))) ∧ h' = h) := by
  have := m_fault (LL := LL) (xs := xs) (d := d) (nI 5) (h := h)
  rw [show -(nI 10) - nI 5 = -(nI 15) by decide] at this
  exact this
theorem m_f6 {h : gx_H} : gx_call LL xs (d + 1) z_M_fault 0 0 [.int (nI 6)] h (fun r h' => r = some (.int (-(nI 16))) ∧ h' = h) := by
  have := m_fault (LL := LL) (xs := xs) (d := d) (nI 6) (h := h)
  rw [show -(nI 10) - nI 6 = -(nI 16) by decide] at this
  exact this
theorem m_popped : gx_call LL xs (d + 1) z_M_popped 0 0 [.ref 43] (gm_h pre n μ sp fo pc lp cl tk tc F gv) (fun r h => r = some (.int lp) ∧ h = (gm_h pre n μ sp fo pc lp cl tk tc F gv)) :=
  gs_M_popped _ (gx_run 3 (And.intro rfl rfl))
theorem m_push_n (v : Int32) : gx_call LL xs (d + 2) z_M_push 0 0 [.ref 43, .int v] (gm_h pre n μ sp none pc lp cl tk tc F gv) (fun r h => r = some (.int (-(nI 16))) ∧ h = (gm_h pre n μ sp none pc lp cl tk tc F gv)) :=
  gs_M_push _ _ (gx_run 3 (And.intro ⟨_, rfl⟩ (gx_c1 (gx_le8 rfl) m_hasFrame_n (And.intro (fun c => absurd rfl c) (fun _ => gx_run 3 (gx_c1 (gx_le8 rfl) m_f6 (And.intro rfl rfl)))))))
theorem m_push_f (v : Int32) {f : Nat} (hf : f < 2147483648) (hs : sp ≤ n) (hn : n ≤ 1024) (hfull : n < sp + 4) : gx_call LL xs (d + 2) z_M_push 0 0 [.ref 43, .int v] (gm_h pre n μ sp (some f) pc lp cl tk tc F gv) (fun r h => r = some (.int (-(nI 15))) ∧ h = (gm_h pre n μ sp (some f) pc lp cl tk tc F gv)) := by
  refine gs_M_push _ _ (gx_run 3 (And.intro ⟨_, rfl⟩ (gx_c1 (gx_le8 rfl) (m_hasFrame hf) (And.intro (fun _ => ?_) (fun c => absurd c (by decide))))))
  exact gx_run 7 (And.intro (fun c => absurd c (by rw [nI_add]; exact nI_ge hfull (by omega))) (fun _ => gx_run 3 (gx_c1 (gx_le8 rfl) m_f5 (And.intro rfl rfl))))
theorem m_push (v : Int32) {f : Nat} (hmk : ga_mk μ sp M) (htk : ga_tk tk M) (hn : n ≤ 1024) (hf : ga_top M = some f) (hfull : sp + 4 ≤ n) : gx_call LL xs (d + 4) z_M_push 0 0 [.ref 43, .int v] (gm_h pre n μ sp (ga_top M) pc lp cl tk (ga_tc M) F gv) (fun r h => r = some (.int (nI (ga_vc (ga_wr μ sp 4 v) (sp + 4) M))) ∧ h = (gm_h pre n (ga_wr μ sp 4 v) (sp + 4) (ga_top M) pc lp cl tk (ga_tc M) F gv)) := by
  have hlt := ga_top_lt hmk hf
  have hb := ga_base_le hmk
  have hvc := m_values (LL := LL) (xs := xs) (d := d) (pre := pre) (n := n) (pc := pc) (lp := lp) (cl := cl) (F := F) (gv := gv) (ga_mk_wr (v := v) (w := 4) (l2 := sp + 4) hmk (by omega) hb) htk (by omega) hf
  rw [hf] at hvc ⊢
  refine gs_M_push _ _ (gx_run 3 (And.intro ⟨_, rfl⟩ (gx_c1 (gx_le8 rfl) (m_hasFrame (by omega)) (And.intro (fun _ => ?_) (fun c => absurd c (by decide))))))
  refine gx_run 7 (And.intro (fun _ => ?_) (fun c => absurd (by rw [nI_add]; exact nI_le hfull (by omega)) c))
  exact gx_run 6 (And.intro ⟨_, rfl⟩ (gx_c1 (gx_le8 rfl) (m_pushes v (by omega)) (And.intro ⟨_, rfl⟩ (gx_c1 (gx_le8 rfl) hvc (And.intro rfl rfl)))))
theorem ga_e_n {x : Int32} (hx : ¬ x < 0) (hf : ga_top M = none) : ga_e μ sp M x = -(nI 16) := by
  unfold ga_e
  rw [if_neg hx, if_pos hf]
theorem ga_e_s {x : Int32} {f : Nat} (hx : ¬ x < 0) (hf : ga_top M = some f) : ga_e μ sp M x = if nI (ga_vc μ sp M) < x then -(nI 12) else nI 0 := by
  unfold ga_e
  rw [if_neg hx, if_neg (by rw [hf]; exact fun h => by cases h)]
theorem m_pop_e (hmk : ga_mk μ sp M) (htk : ga_tk tk M) (hs : sp ≤ 1024) {y : Int32} (hy : ga_e μ sp M (nI 1) = y) (h0 : ¬ y = 0) : gx_call LL xs (d + 4) z_M_pop 0 0 [.ref 43] (gm_h pre n μ sp (ga_top M) pc lp cl tk (ga_tc M) F gv) (fun r h => r = some (.int y) ∧ h = (gm_h pre n μ sp (ga_top M) pc lp cl tk (ga_tc M) F gv)) := by
  cases hf : ga_top M with
  | none =>
    rw [ga_e_n (by decide) hf] at hy
    subst hy
    exact gs_M_pop _ (gx_run 3 (And.intro ⟨_, rfl⟩ (gx_c1 (gx_le8 rfl) m_hasFrame_n (And.intro (fun c => absurd rfl c) (fun _ => gx_run 3 (gx_c1 (gx_le8 rfl) m_f6 (And.intro rfl rfl)))))))
  | some f =>
    have hlt := ga_top_lt hmk hf
    have hvl := ga_vc_le hmk
    rw [ga_e_s (by decide) hf] at hy
    have hvc := m_values (LL := LL) (xs := xs) (d := d) (pre := pre) (n := n) (pc := pc) (lp := lp) (cl := cl) (F := F) (gv := gv) hmk htk hs hf
    rw [hf] at hvc
    refine gs_M_pop _ (gx_run 3 (And.intro ⟨_, rfl⟩ (gx_c1 (gx_le8 rfl) (m_hasFrame (by omega)) (And.intro (fun _ => gx_run 3 (And.intro ⟨_, rfl⟩ (gx_c1 (gx_le8 rfl) hvc ?_))) (fun c => absurd c (by decide))))))
    by_cases c : nI (ga_vc μ sp M) < nI 1
    · rw [if_pos c] at hy
      subst hy
      have : ga_vc μ sp M = 0 := by
        rcases Nat.eq_zero_or_pos (ga_vc μ sp M) with h | h
        · exact h
        · exact absurd c (nI_nlt h (by omega))
      rw [this]
      exact And.intro (fun c => absurd rfl c) (fun _ => gx_run 3 (gx_c1 (gx_le8 rfl) m_f2 (And.intro rfl rfl)))
    · rw [if_neg c] at hy
      exact absurd hy.symm h0
theorem m_pop (hmk : ga_mk μ sp M) (htk : ga_tk tk M) (hs : sp ≤ 1024) (hy : ga_e μ sp M (nI 1) = nI 0) : gx_call LL xs (d + 4) z_M_pop 0 0 [.ref 43] (gm_h pre n μ sp (ga_top M) pc lp cl tk (ga_tc M) F gv) (fun r h => r = some (.int (nI (ga_vc μ (sp - 4) M))) ∧ h = (gm_h pre n μ (sp - 4) (ga_top M) pc (ga_rd μ (sp - 4) 4) cl tk (ga_tc M) F gv)) := by
  have hvl := ga_vc_le hmk
  obtain ⟨m, f, hm, hm2, hf⟩ := ga_e0 (by omega) hy
  have hlt := ga_top_lt hmk hf
  have hm1 : 1 ≤ ga_vc μ sp M := by
    rw [ga_e_s (by decide) hf] at hy
    rcases Nat.lt_or_ge (ga_vc μ sp M) 1 with c | c
    · rw [if_pos (nI_lt c (by decide))] at hy
      exact absurd hy (by decide)
    · exact c
  have hvc := m_values (LL := LL) (xs := xs) (d := d) (pre := pre) (n := n) (pc := pc) (lp := lp) (cl := cl) (F := F) (gv := gv) hmk htk hs hf
  have hmk2 : ga_mk μ (sp - 4) M := ga_mk_low hmk (by omega) fun _ _ => rfl
  have hvc2 := m_values (LL := LL) (xs := xs) (d := d) (pre := pre) (n := n) (pc := pc) (lp := ga_rd μ (sp - 4) 4) (cl := cl) (F := F) (gv := gv) hmk2 htk (by omega) hf
  have hrd := m_read (LL := LL) (xs := xs) (d := d + 2) (pre := pre) (n := n) (μ := μ) (sp := sp - 4) (fo := some f) (pc := pc) (lp := lp) (cl := cl) (tk := tk) (tc := ga_tc M) (F := F) (gv := gv) (a := sp - 4) (w := 4) (by omega)
  rw [← pk_sub (show 4 ≤ sp by omega)] at hrd
  rw [hf] at hvc hvc2 ⊢
  have e : ∀ l : Int32, (gm_h pre n μ (sp - 4) (some f) pc l cl tk (ga_tc M) F gv) = (gm_h pre n μ sp (some f) pc lp cl tk (ga_tc M) F gv).set 43 (.inr (.inr (3, [.int (nI n), .ref 44, .int (nI sp - nI 4), .int (ga_fp (some f)), .int pc, .ref 45, .ref 46, .ref 47, .ref 48, .ref 49, .ref 50, .ref 51, .int (nI (ga_tc M)), .int l, .ref 52]))) := fun l => by rw [pk_sub (show 4 ≤ sp by omega)]; rfl
  rw [e] at hrd hvc2
  rw [e]
  refine gs_M_pop _ (gx_run 3 (And.intro ⟨_, rfl⟩ (gx_c1 (gx_le8 rfl) (m_hasFrame (by omega)) (And.intro (fun _ => gx_run 3 (And.intro ⟨_, rfl⟩ (gx_c1 (gx_le8 rfl) hvc (And.intro (fun _ => ?_) (fun c => absurd c (nI_ne0 hm1 (by omega))))))) (fun c => absurd c (by decide))))))
  exact gx_run 16 (And.intro ⟨_, rfl⟩ (gx_c1 (gx_le8 rfl) hrd (And.intro ⟨_, rfl⟩ (gx_c1 (gx_le8 rfl) hvc2 (And.intro rfl rfl)))))
theorem m_peek_n (x : Int32) : gx_call LL xs (d + 2) z_M_peek 0 0 [.ref 43, .int x] (gm_h pre n μ sp none pc lp cl tk tc F gv) (fun r h => r = some (.int (-(nI 16))) ∧ h = (gm_h pre n μ sp none pc lp cl tk tc F gv)) :=
  gs_M_peek _ _ (gx_run 3 (And.intro ⟨_, rfl⟩ (gx_c1 (gx_le8 rfl) m_hasFrame_n (And.intro (fun c => absurd rfl c) (fun _ => gx_run 3 (gx_c1 (gx_le8 rfl) m_f6 (And.intro rfl rfl)))))))
theorem ga_inv1 {x : Int32} {v : Nat} (hv : v < 1073741824) : (lN 0 ≤ x.toInt64 ∧ x.toInt64 ≤ (nI v - nI 1).toInt64) ↔ ¬ x < 0 ∧ ¬ nI v ≤ x := by
  rw [ga_i64b, Int32.lt_iff_toInt_lt, Int32.lt_iff_toInt_lt, Int32.le_iff_toInt_le, nI_toInt (show v < 2147483648 by omega), pk_sub_toInt (by omega) (by omega)]
  omega
theorem m_peek_e (x : Int32) {f : Nat} (hmk : ga_mk μ sp M) (htk : ga_tk tk M) (hs : sp ≤ 1024) (hf : ga_top M = some f) (hx : x < 0 ∨ nI (ga_vc μ sp M) ≤ x) : gx_call LL xs (d + 4) z_M_peek 0 0 [.ref 43, .int x] (gm_h pre n μ sp (ga_top M) pc lp cl tk (ga_tc M) F gv) (fun r h => r = some (.int (-(nI 12))) ∧ h = (gm_h pre n μ sp (ga_top M) pc lp cl tk (ga_tc M) F gv)) := by
  have hlt := ga_top_lt hmk hf
  have hvl := ga_vc_le hmk
  have hvc := m_values (LL := LL) (xs := xs) (d := d) (pre := pre) (n := n) (pc := pc) (lp := lp) (cl := cl) (F := F) (gv := gv) hmk htk hs hf
  rw [hf] at hvc ⊢
  refine gs_M_peek _ _ (gx_run 3 (And.intro ⟨_, rfl⟩ (gx_c1 (gx_le8 rfl) (m_hasFrame (by omega)) (And.intro (fun _ => gx_run 10 (And.intro ⟨_, rfl⟩ (gx_c1 (gx_le8 rfl) hvc (And.intro (gx_le8 rfl) (And.intro (fun c => absurd ((ga_inv1 (by omega)).mp c) ?_) (fun c => And.intro (fun z => absurd rfl z) (fun _ => gx_run 3 (gx_c1 (gx_le8 rfl) m_f2 (And.intro rfl rfl))))))))) (fun c => absurd c (by decide))))))
  rintro ⟨h1, h2⟩
  rcases hx with h | h
  · exact h1 h
  · exact h2 h
theorem m_peek {f j : Nat} (hmk : ga_mk μ sp M) (htk : ga_tk tk M) (hs : sp ≤ 1024) (hf : ga_top M = some f) (hj : j < ga_vc μ sp M) : gx_call LL xs (d + 4) z_M_peek 0 0 [.ref 43, .int (nI j)] (gm_h pre n μ sp (ga_top M) pc lp cl tk (ga_tc M) F gv) (fun r h => r = some (.int (nI 1)) ∧ h = (gm_h pre n μ sp (ga_top M) pc (ga_rd μ (sp - 4 * (j + 1)) 4) cl tk (ga_tc M) F gv)) := by
  have hlt := ga_top_lt hmk hf
  have hvl := ga_vc_le hmk
  have hvc := m_values (LL := LL) (xs := xs) (d := d) (pre := pre) (n := n) (pc := pc) (lp := lp) (cl := cl) (F := F) (gv := gv) hmk htk hs hf
  have hrd := m_read (LL := LL) (xs := xs) (d := d + 2) (pre := pre) (n := n) (μ := μ) (sp := sp) (fo := some f) (pc := pc) (lp := lp) (cl := cl) (tk := tk) (tc := ga_tc M) (F := F) (gv := gv) (a := sp - 4 * (j + 1)) (w := 4) (by omega)
  rw [show nI (sp - 4 * (j + 1)) = nI sp - nI 4 - nI 4 * nI j by rw [pk_mul, pk_sub (show 4 ≤ sp by omega), pk_sub (by omega)]; congr 1; omega] at hrd
  rw [hf] at hvc ⊢
  refine gs_M_peek _ _ (gx_run 3 (And.intro ⟨_, rfl⟩ (gx_c1 (gx_le8 rfl) (m_hasFrame (by omega)) (And.intro (fun _ => gx_run 10 (And.intro ⟨_, rfl⟩ (gx_c1 (gx_le8 rfl) hvc (And.intro (gx_le8 rfl) (And.intro (fun c => And.intro (fun _ => ?_) (fun z => absurd z (by decide))) (fun c => absurd ((ga_inv1 (by omega)).mpr ⟨nI_pos (by omega), nI_ge hj (by omega)⟩) c)))))) (fun c => absurd c (by decide))))))
  exact gx_run 15 (And.intro ⟨_, rfl⟩ (gx_c1 (gx_le8 rfl) hrd (And.intro rfl rfl)))
theorem m_copy_e (x : Int32) (hmk : ga_mk μ sp M) (htk : ga_tk tk M) (hs : sp ≤ 1024) {y : Int32} (hy : ga_e μ sp M x = y) (h0 : ¬ y = 0) : gx_call LL xs (d + 4) z_M_copy 0 0 [.ref 43, .int x] (gm_h pre n μ sp (ga_top M) pc lp cl tk (ga_tc M) F gv) (fun r h => r = some (.int y) ∧ h = (gm_h pre n μ sp (ga_top M) pc lp cl tk (ga_tc M) F gv)) := by
  by_cases hx : x < 0
  · unfold ga_e at hy
    rw [if_pos hx] at hy
    subst hy
    exact gs_M_copy _ _ (gx_run 2 (And.intro (fun c => absurd hx (Int32.not_lt.mpr c)) (fun _ => gx_run 2 (And.intro rfl rfl))))
  · refine gs_M_copy _ _ (gx_run 2 (And.intro (fun _ => ?_) (fun c => absurd (Int32.not_lt.mp hx) c)))
    cases hf : ga_top M with
    | none =>
      rw [ga_e_n hx hf] at hy
      subst hy
      exact gx_run 3 (And.intro ⟨_, rfl⟩ (gx_c1 (gx_le8 rfl) m_hasFrame_n (And.intro (fun c => absurd rfl c) (fun _ => gx_run 3 (gx_c1 (gx_le8 rfl) m_f6 (And.intro rfl rfl))))))
    | some f =>
      have hlt := ga_top_lt hmk hf
      have hvl := ga_vc_le hmk
      rw [ga_e_s hx hf] at hy
      have hvc := m_values (LL := LL) (xs := xs) (d := d) (pre := pre) (n := n) (pc := pc) (lp := lp) (cl := cl) (F := F) (gv := gv) hmk htk hs hf
      rw [hf] at hvc
      refine gx_run 3 (And.intro ⟨_, rfl⟩ (gx_c1 (gx_le8 rfl) (m_hasFrame (by omega)) (And.intro (fun _ => gx_run 4 (And.intro ⟨_, rfl⟩ (gx_c1 (gx_le8 rfl) hvc ?_))) (fun c => absurd c (by decide)))))
      by_cases c : nI (ga_vc μ sp M) < x
      · rw [if_pos c] at hy
        subst hy
        exact And.intro (fun z => absurd c (Int32.not_lt.mpr z)) (fun _ => gx_run 3 (gx_c1 (gx_le8 rfl) m_f2 (And.intro rfl rfl)))
      · rw [if_neg c] at hy
        exact absurd hy.symm h0
/-- up to where the room is looked at -/
theorem m_copy_q {m f : Nat} {Q : gx_Q} (hmk : ga_mk μ sp M) (htk : ga_tk tk M) (hs : sp ≤ 1024) (hf : ga_top M = some f) (hm : m ≤ ga_vc μ sp M) (hO : gx_E LL xs (gx_call LL xs (d + 3)) cd_M_copy Q 17 [some (.ref 43), some (.int (nI m)), none, none] [] (gm_h pre n μ sp (ga_top M) pc lp cl tk (ga_tc M) F gv) 0 0) : gx_call LL xs (d + 4) z_M_copy 0 0 [.ref 43, .int (nI m)] (gm_h pre n μ sp (ga_top M) pc lp cl tk (ga_tc M) F gv) Q := by
  have hlt := ga_top_lt hmk hf
  have hvl := ga_vc_le hmk
  have hvc := m_values (LL := LL) (xs := xs) (d := d) (pre := pre) (n := n) (pc := pc) (lp := lp) (cl := cl) (F := F) (gv := gv) hmk htk hs hf
  rw [hf] at hvc hO ⊢
  exact gs_M_copy _ _ (gx_run 2 (And.intro (fun _ => gx_run 3 (And.intro ⟨_, rfl⟩ (gx_c1 (gx_le8 rfl) (m_hasFrame (by omega)) (And.intro (fun _ => gx_run 4 (And.intro ⟨_, rfl⟩ (gx_c1 (gx_le8 rfl) hvc (And.intro (fun _ => hO) (fun c => absurd (nI_le hm (by omega)) c))))) (fun c => absurd c (by decide)))))) (fun c => absurd (nI_pos' (by omega)) c)))
theorem m_copy_f {m f : Nat} (hmk : ga_mk μ sp M) (htk : ga_tk tk M) (hs : sp ≤ n) (hn : n ≤ 1024) (hf : ga_top M = some f) (hm : m ≤ ga_vc μ sp M) (hfull : n < sp + 4 * m) : gx_call LL xs (d + 4) z_M_copy 0 0 [.ref 43, .int (nI m)] (gm_h pre n μ sp (ga_top M) pc lp cl tk (ga_tc M) F gv) (fun r h => r = some (.int (-(nI 15))) ∧ h = (gm_h pre n μ sp (ga_top M) pc lp cl tk (ga_tc M) F gv)) := by
  have hvl := ga_vc_le hmk
  exact m_copy_q hmk htk (by omega) hf hm (gx_run 9 (And.intro (fun c => absurd c (by rw [pk_mul, nI_add]; exact nI_ge hfull (by omega))) (fun _ => gx_run 3 (gx_c1 (gx_le8 rfl) m_f5 (And.intro rfl rfl)))))
theorem m_copy_l {m f : Nat} (hmk : ga_mk μ sp M) (htk : ga_tk tk M) (hs : sp + 4 * m ≤ n) (hms : 4 * m ≤ sp) (hn : n ≤ 1024) (hf : ga_top M = some f) : ∀ (q i : Nat), i + q = m →
    gx_E LL xs (gx_call LL xs (d + 3)) cd_M_copy (fun r h => r = some (.int (nI (ga_vc (ga_cp μ sp m m) (sp + 4 * m) M))) ∧ h = (gm_h pre n (ga_cp μ sp m m) (sp + 4 * m) (ga_top M) pc lp cl tk (ga_tc M) F gv)) 38 [some (.ref 43), some (.int (nI m)), some (.int (nI (sp - 4 * m))), some (.int (nI i))] [] (gm_h pre n (ga_cp μ sp m i) (sp + 4 * i) (ga_top M) pc lp cl tk (ga_tc M) F gv) 0 0 := by
  intro q
  induction q with
  | zero =>
    intro i hq
    obtain rfl : i = m := by omega
    have hb := ga_base_le hmk
    have hmk2 : ga_mk (ga_cp μ sp i i) (sp + 4 * i) M := ga_mk_low hmk (by omega) fun j hj => (ga_cp_low (by omega)).symm
    exact gx_run 3 (And.intro (fun _ => gx_run 3 (And.intro ⟨_, rfl⟩ (gx_c1 (gx_le8 rfl) (m_values hmk2 htk (by omega) hf) (And.intro rfl rfl)))) (fun c => absurd (nI_le (Nat.le_refl i) (by omega)) c))
  | succ q ih =>
    intro i hq
    have hrd := m_read (LL := LL) (xs := xs) (d := d + 2) (pre := pre) (n := n) (μ := ga_cp μ sp m i) (sp := sp + 4 * i) (fo := ga_top M) (pc := pc) (lp := lp) (cl := cl) (tk := tk) (tc := ga_tc M) (F := F) (gv := gv) (a := sp + 4 * i - 4 * m) (w := 4) (by omega)
    rw [show nI (sp + 4 * i - 4 * m) = nI (sp - 4 * m) + nI 4 * nI i by rw [pk_mul, nI_add]; congr 1; omega] at hrd
    refine gx_run 3 (And.intro (fun c => absurd c (nI_ge (show i < m by omega) (by omega))) (fun _ => gx_run 12 (And.intro ⟨_, rfl⟩ (gx_c1 (gx_le8 rfl) hrd (And.intro ⟨_, rfl⟩ (gx_c1 (gx_le8 rfl) (m_pushes _ (show sp + 4 * i + 4 ≤ 1024 by omega)) ?_))))))
    have h9 := ih (i + 1) (by omega)
    rw [← nI_add i 1, show sp + 4 * (i + 1) = sp + 4 * i + 4 by omega] at h9
    exact h9
theorem m_copy {m f : Nat} (hmk : ga_mk μ sp M) (htk : ga_tk tk M) (hn : n ≤ 1024) (hf : ga_top M = some f) (hm : m ≤ ga_vc μ sp M) (hfull : sp + 4 * m ≤ n) : gx_call LL xs (d + 4) z_M_copy 0 0 [.ref 43, .int (nI m)] (gm_h pre n μ sp (ga_top M) pc lp cl tk (ga_tc M) F gv) (fun r h => r = some (.int (nI (ga_vc (ga_cp μ sp m m) (sp + 4 * m) M))) ∧ h = (gm_h pre n (ga_cp μ sp m m) (sp + 4 * m) (ga_top M) pc lp cl tk (ga_tc M) F gv)) := by
  have hvl := ga_vc_le hmk
  have h9 := m_copy_l (LL := LL) (xs := xs) (d := d) (pre := pre) (pc := pc) (lp := lp) (cl := cl) (F := F) (gv := gv) hmk htk hfull (by omega) hn hf m 0 (Nat.zero_add m)
  rw [← pk_sub (show 4 * m ≤ sp by omega), ← pk_mul] at h9
  exact m_copy_q hmk htk (by omega) hf hm (gx_run 9 (And.intro (fun _ => gx_run 9 h9) (fun c => absurd (by rw [pk_mul, nI_add]; exact nI_le hfull (by omega)) c)))
theorem m_roll_e (x b : Int32) (hmk : ga_mk μ sp M) (htk : ga_tk tk M) (hs : sp ≤ 1024) {y : Int32} (hy : ga_e μ sp M x = y) (h0 : ¬ y = 0) : gx_call LL xs (d + 4) z_M_roll 0 0 [.ref 43, .int x, .int b] (gm_h pre n μ sp (ga_top M) pc lp cl tk (ga_tc M) F gv) (fun r h => r = some (.int y) ∧ h = (gm_h pre n μ sp (ga_top M) pc lp cl tk (ga_tc M) F gv)) := by
  by_cases hx : x < 0
  · unfold ga_e at hy
    rw [if_pos hx] at hy
    subst hy
    exact gs_M_roll _ _ _ (gx_run 2 (And.intro (fun c => absurd hx (Int32.not_lt.mpr c)) (fun _ => gx_run 2 (And.intro rfl rfl))))
  · refine gs_M_roll _ _ _ (gx_run 2 (And.intro (fun _ => ?_) (fun c => absurd (Int32.not_lt.mp hx) c)))
    cases hf : ga_top M with
    | none =>
      rw [ga_e_n hx hf] at hy
      subst hy
      exact gx_run 3 (And.intro ⟨_, rfl⟩ (gx_c1 (gx_le8 rfl) m_hasFrame_n (And.intro (fun c => absurd rfl c) (fun _ => gx_run 3 (gx_c1 (gx_le8 rfl) m_f6 (And.intro rfl rfl))))))
    | some f =>
      have hlt := ga_top_lt hmk hf
      have hvl := ga_vc_le hmk
      rw [ga_e_s hx hf] at hy
      have hvc := m_values (LL := LL) (xs := xs) (d := d) (pre := pre) (n := n) (pc := pc) (lp := lp) (cl := cl) (F := F) (gv := gv) hmk htk hs hf
      rw [hf] at hvc
      refine gx_run 3 (And.intro ⟨_, rfl⟩ (gx_c1 (gx_le8 rfl) (m_hasFrame (by omega)) (And.intro (fun _ => gx_run 4 (And.intro ⟨_, rfl⟩ (gx_c1 (gx_le8 rfl) hvc ?_))) (fun c => absurd c (by decide)))))
      by_cases c : nI (ga_vc μ sp M) < x
      · rw [if_pos c] at hy
        subst hy
        exact And.intro (fun z => absurd c (Int32.not_lt.mpr z)) (fun _ => gx_run 3 (gx_c1 (gx_le8 rfl) m_f2 (And.intro rfl rfl)))
      · rw [if_neg c] at hy
        exact absurd hy.symm h0
theorem m_roll_q {m f : Nat} {b : Int32} {Q : gx_Q} (hmk : ga_mk μ sp M) (htk : ga_tk tk M) (hs : sp ≤ 1024) (hf : ga_top M = some f) (hm : m ≤ ga_vc μ sp M) (hO : gx_E LL xs (gx_call LL xs (d + 3)) cd_M_roll Q 17 [some (.ref 43), some (.int (nI m)), some (.int b), none, none, none] [] (gm_h pre n μ sp (ga_top M) pc lp cl tk (ga_tc M) F gv) 0 0) : gx_call LL xs (d + 4) z_M_roll 0 0 [.ref 43, .int (nI m), .int b] (gm_h pre n μ sp (ga_top M) pc lp cl tk (ga_tc M) F gv) Q := by
  have hlt := ga_top_lt hmk hf
  have hvl := ga_vc_le hmk
  have hvc := m_values (LL := LL) (xs := xs) (d := d) (pre := pre) (n := n) (pc := pc) (lp := lp) (cl := cl) (F := F) (gv := gv) hmk htk hs hf
  rw [hf] at hvc hO ⊢
  exact gs_M_roll _ _ _ (gx_run 2 (And.intro (fun _ => gx_run 3 (And.intro ⟨_, rfl⟩ (gx_c1 (gx_le8 rfl) (m_hasFrame (by omega)) (And.intro (fun _ => gx_run 4 (And.intro ⟨_, rfl⟩ (gx_c1 (gx_le8 rfl) hvc (And.intro (fun _ => hO) (fun c => absurd (nI_le hm (by omega)) c))))) (fun c => absurd c (by decide)))))) (fun c => absurd (nI_pos' (by omega)) c)))
theorem m_roll_0 {f : Nat} (b : Int32) (hmk : ga_mk μ sp M) (htk : ga_tk tk M) (hs : sp ≤ 1024) (hf : ga_top M = some f) : gx_call LL xs (d + 4) z_M_roll 0 0 [.ref 43, .int (nI 0), .int b] (gm_h pre n μ sp (ga_top M) pc lp cl tk (ga_tc M) F gv) (fun r h => r = some (.int (nI 1)) ∧ h = (gm_h pre n μ sp (ga_top M) pc lp cl tk (ga_tc M) F gv)) :=
  m_roll_q hmk htk hs hf (Nat.zero_le _) (gx_run 2 (And.intro (fun c => absurd rfl c) (fun _ => gx_run 2 (And.intro rfl rfl))))
def ga_ty (μ : Nat → Nat) (a m : Nat) (gv : Nat → Int32) : Nat → Int32 := fun i => if i < m then ga_rd μ (a + 4 * i) 4 else gv i
theorem ga_ty_s {a m : Nat} : upd (ga_ty μ a m gv) m (ga_rd μ (a + 4 * m) 4) = ga_ty μ a (m + 1) gv := by
  funext i
  unfold upd ga_ty
  by_cases h : i = m
  · subst h; simp
  · rw [if_neg h]
    by_cases h2 : i < m
    · rw [if_pos h2, if_pos (by omega)]
    · rw [if_neg h2, if_neg (by omega)]
theorem ga_ty_0 {a : Nat} : ga_ty μ a 0 gv = gv := by
  funext i
  unfold ga_ty
  rw [if_neg (Nat.not_lt_zero i)]
theorem m_roll_r {m a : Nat} {b : Int32} {Q : gx_Q} (hm : m ≤ 256) (ha : a + 4 * m ≤ 1024) (hO : ∀ (w : Option Value), gx_E LL xs (gx_call LL xs (d + 1)) cd_M_roll Q 47 [some (.ref 43), some (.int (nI m)), some (.int b), some (.int (nI a)), w, none] [] (gm_h pre n μ sp fo pc lp cl tk tc F (ga_ty μ a m gv)) 0 0) : ∀ (q i : Nat), i + q = m →
    gx_E LL xs (gx_call LL xs (d + 1)) cd_M_roll Q 30 [some (.ref 43), some (.int (nI m)), some (.int b), some (.int (nI a)), some (.int (nI i)), none] [] (gm_h pre n μ sp fo pc lp cl tk tc F (ga_ty μ a i gv)) 0 0 := by
  intro q
  induction q with
  | zero =>
    intro i hq
    obtain rfl : i = m := by omega
    exact gx_run 3 (And.intro (fun _ => hO _) (fun c => absurd (nI_le (Nat.le_refl i) (by omega)) c))
  | succ q ih =>
    intro i hq
    have hrd := m_read (LL := LL) (xs := xs) (d := d) (pre := pre) (n := n) (μ := μ) (sp := sp) (fo := fo) (pc := pc) (lp := lp) (cl := cl) (tk := tk) (tc := tc) (F := F) (gv := ga_ty μ a i gv) (a := a + 4 * i) (w := 4) (by omega)
    rw [← nI_add, ← pk_mul] at hrd
    refine gx_run 3 (And.intro (fun c => absurd c (nI_ge (show i < m by omega) (by omega))) (fun _ => gx_run 14 (And.intro ⟨_, rfl⟩ (gx_c1 (gx_le8 rfl) hrd (gx_ar i rfl (show i < 256 by omega) (by decide) ?_)))))
    have h9 := ih (i + 1) (by omega)
    rw [← nI_add i 1, ← ga_ty_s] at h9
    exact h9
theorem m_roll_w {m a u : Nat} {b : Int32} {V : Nat → Int32} (hm : m ≤ 256) (ha : a + 4 * m ≤ 1024) (hu : u < m) (hV : ∀ i, i < m → gv i = V i) : ∀ (q i : Nat), i + q = m →
    gx_E LL xs (gx_call LL xs (d + 1)) cd_M_roll (fun r h => r = some (.int (nI 1)) ∧ h = (gm_h pre n (ga_wq a m u V μ m) sp fo pc lp cl tk tc F gv)) 57 [some (.ref 43), some (.int (nI m)), some (.int b), some (.int (nI a)), some (.int (nI u)), some (.int (nI i))] [] (gm_h pre n (ga_wq a m u V μ i) sp fo pc lp cl tk tc F gv) 0 0 := by
  intro q
  induction q with
  | zero =>
    intro i hq
    obtain rfl : i = m := by omega
    exact gx_run 3 (And.intro (fun _ => gx_run 2 (And.intro rfl rfl)) (fun c => absurd (nI_le (Nat.le_refl i) (by omega)) c))
  | succ q ih =>
    intro i hq
    have hsg := ga_sg_lt (i := i) hu (by omega)
    have hwr := m_write (LL := LL) (xs := xs) (d := d) (pre := pre) (n := n) (μ := ga_wq a m u V μ i) (sp := sp) (fo := fo) (pc := pc) (lp := lp) (cl := cl) (tk := tk) (tc := tc) (F := F) (gv := gv) (a := a + 4 * ga_sg m u i) (w := 4) (gv i) (by omega)
    rw [← nI_add, ← pk_mul, ← ga_md hu (by omega), ← ga_rmn (show i + u < 2147483648 by omega) (by omega) (by omega), ← nI_add i u, ga_md hu (by omega)] at hwr
    refine gx_run 3 (And.intro (fun c => absurd c (nI_ge (show i < m by omega) (by omega))) (fun _ => gx_run 18 (And.intro (nI_ne0 (by omega) (by omega)) (gx_ar i rfl (show i < 256 by omega) (by decide) (And.intro ⟨_, rfl⟩ (gx_c1 (gx_le8 rfl) hwr ?_))))))
    have h9 := ih (i + 1) (by omega)
    rw [← nI_add i 1, ga_wq, ← hV i (by omega)] at h9
    exact h9
theorem m_roll {m f : Nat} (b : Int32) (h1 : 0 < m) (hmk : ga_mk μ sp M) (htk : ga_tk tk M) (hs : sp ≤ 1024) (hf : ga_top M = some f) (hm : m ≤ ga_vc μ sp M) : gx_call LL xs (d + 4) z_M_roll 0 0 [.ref 43, .int (nI m), .int b] (gm_h pre n μ sp (ga_top M) pc lp cl tk (ga_tc M) F gv) (fun r h => r = some (.int (nI 1)) ∧ h = (gm_h pre n (ga_ws (sp - 4 * m) (ga_rv μ sp m (ga_fm b m)) μ m) sp (ga_top M) pc lp cl tk (ga_tc M) F (ga_ty μ (sp - 4 * m) m gv))) := by
  have hvl := ga_vc_le hmk
  have hfm := ga_fm_lt b h1
  rw [← ga_wq_ws (by omega) hfm]
  have hw := m_roll_w (LL := LL) (xs := xs) (d := d + 2) (pre := pre) (n := n) (μ := μ) (sp := sp) (fo := ga_top M) (pc := pc) (lp := lp) (cl := cl) (tk := tk) (tc := ga_tc M) (F := F) (gv := ga_ty μ (sp - 4 * m) m gv) (b := b) (m := m) (a := sp - 4 * m) (u := ga_fm b m) (V := fun i => ga_rd μ (sp - 4 * m + 4 * i) 4) (by omega) (by omega) hfm (fun i hi => if_pos hi) m 0 (Nat.zero_add m)
  have hr := m_roll_r (LL := LL) (xs := xs) (d := d + 2) (pre := pre) (n := n) (μ := μ) (sp := sp) (fo := ga_top M) (pc := pc) (lp := lp) (cl := cl) (tk := tk) (tc := ga_tc M) (F := F) (gv := gv) (b := b) (m := m) (a := sp - 4 * m) (Q := fun r h => r = some (.int (nI 1)) ∧ h = (gm_h pre n (ga_wq (sp - 4 * m) m (ga_fm b m) (fun i => ga_rd μ (sp - 4 * m + 4 * i) 4) μ m) sp (ga_top M) pc lp cl tk (ga_tc M) F (ga_ty μ (sp - 4 * m) m gv))) (by omega) (by omega) (fun w => by
    rw [← ga_fm2 b h1 (by omega)] at hw
    exact gx_run 10 (And.intro (nI_ne0 h1 (by omega)) (And.intro (nI_ne0 h1 (by omega)) hw))) m 0 (Nat.zero_add m)
  rw [← pk_sub (show 4 * m ≤ sp by omega), ← pk_mul, ga_ty_0] at hr
  exact m_roll_q hmk htk hs hf hm (gx_run 2 (And.intro (fun _ => gx_run 9 hr) (fun c => absurd c (nI_ne0 h1 (by omega)))))
end GMD
