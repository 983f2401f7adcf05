/-! The reference: what changes its state in small steps. -/
theorem ga_i64c (x : Int32) (a c : Nat) (ha : a < 2147483648) (hc : c < 2147483648) : (lN a ≤ x.toInt64 ∧ x.toInt64 ≤ lN c) ↔ ¬ x < nI a ∧ ¬ nI c < x := by
  rw [Int64.le_iff_toInt_le, Int64.le_iff_toInt_le, Int32.toInt_toInt64, lN_toInt ha, lN_toInt hc, Int32.lt_iff_toInt_lt, Int32.lt_iff_toInt_lt, nI_toInt ha, nI_toInt hc]
  omega
def ga_bs (μ : Nat → Nat) (tk : Nat → Nat) (f : Nat) : Nat → Nat
  | 0 => f + ga_w μ f
  | i + 1 => if f < tk i then tk i else ga_bs μ tk f i
theorem ga_bs_low {μ tk : Nat → Nat} {f : Nat} : ∀ {c : Nat}, (∀ i, i < c → tk i ≤ f) → ga_bs μ tk f c = f + ga_w μ f
  | 0, _ => rfl
  | c + 1, h => by
    unfold ga_bs
    rw [if_neg (Nat.not_lt.mpr (h c (by omega)))]
    exact ga_bs_low fun i hi => h i (by omega)
theorem ga_bs_base {μ tk : Nat → Nat} {f : Nat} : ∀ {M : ga_M} {lim : Nat}, ga_mk μ lim M → ga_tk tk M → ga_top M = some f → ga_bs μ tk f (ga_tc M) = ga_base μ M
  | (true, g) :: es, lim, ⟨a, b, c, d, e, h⟩, ht, hf => by
    cases hf
    have := ga_tk_le h ht
    exact ga_bs_low (c := ga_tc es) fun i hi => by have := this i hi; omega
  | (false, t) :: es, lim, ⟨a, b, c, d, e⟩, ⟨t1, t2⟩, hf => by
    have hlt := ga_mk_top e (show ga_top es = some f from hf)
    show ga_bs μ tk f (ga_tc es + 1) = t
    unfold ga_bs
    rw [t1, if_pos (by omega)]
theorem gm_F {pre : Nat → gx_A} {n : Nat} {μ : Nat → Nat} {sp : Nat} {fo : Option Nat} {pc lp : Int32} {cl : Nat → Int32} {tk : Nat → Nat} {tc : Nat} {gv : Nat → Int32} {hd pr wd ct fs : Nat → Int32} {G : Nat → ga_F} (h1 : ∀ f, hd f = nI (G f).1) (h2 : ∀ f, pr f = nI (G f).2.2.1) (h3 : ∀ i, wd i = nI ((G (i / 6)).2.2.2.1 (i % 6))) (h4 : ∀ i, ct i = nI ((G (i / 6)).2.2.2.2 (i % 6))) (h5 : ∀ f, fs f = nI (G f).2.1) :
    gm_q pre n μ sp fo pc lp cl hd pr wd ct fs tk tc gv = gm_h pre n μ sp fo pc lp cl tk tc G gv := by
  obtain rfl := funext h1
  obtain rfl := funext h2
  obtain rfl := funext h3
  obtain rfl := funext h4
  obtain rfl := funext h5
  rfl
section GMC
variable {LL : Nat} {xs : Nat → Int32} {d : Nat} {pre : Nat → gx_A} {n : Nat} {μ : Nat → Nat} {sp : Nat} {fo : Option Nat} {pc lp : Int32} {cl : Nat → Int32} {tk : Nat → Nat} {tc : Nat} {F : Nat → ga_F} {gv : Nat → Int32} {k : Nat} {M : ga_M}
theorem m_function_n (x hd : Int32) (hx : (x < 0 ∨ nI 12 ≤ x) ∨ hd < 0 ∨ nI 255 < hd) : gx_call LL xs (d + 2) z_M_function 0 0 [.ref 43, .int x, .int hd] (gm_h pre n μ sp fo pc lp cl tk tc F gv) (fun r h => r = some (.int (-(nI 1))) ∧ h = (gm_h pre n μ sp fo pc lp cl tk tc F gv)) := by
  by_cases h : x < 0 ∨ nI 12 ≤ x
  · exact gs_M_function _ _ _ (gx_run 3 (gx_c1 (gx_le8 rfl) (m_isFunction_f h) (And.intro (fun _ => gx_run 2 (And.intro rfl rfl)) (fun c => absurd rfl c))))
  · rcases pk_ix x (n := 12) (by decide) with c | c | ⟨k, hk, rfl⟩
    · exact absurd (Or.inl c) h
    · exact absurd (Or.inr c) h
    · exact gs_M_function _ _ _ (gx_run 3 (gx_c1 (gx_le8 rfl) (m_isFunction_t hk) (And.intro (fun c => absurd c (by decide)) (fun _ => gx_run 6 (And.intro (gx_le8 rfl) (And.intro (fun c => absurd c (ga_nx (by decide) (hx.resolve_left h))) (fun c => And.intro (fun z => absurd rfl z) (fun _ => gx_run 2 (And.intro rfl rfl)))))))))
theorem m_function {hd : Nat} (hk : k < 12) (hh : hd ≤ 255) : gx_call LL xs (d + 2) z_M_function 0 0 [.ref 43, .int (nI k), .int (nI hd)] (gm_h pre n μ sp fo pc lp cl tk tc F gv) (fun r h => r = some (.int (nI 1)) ∧ h = (gm_h pre n μ sp fo pc lp cl tk tc (va_up F k (hd, (F k).2.1, 0, (F k).2.2.2.1, (F k).2.2.2.2)) gv)) := by
  refine gs_M_function _ _ _ (gx_run 3 (gx_c1 (gx_le8 rfl) (m_isFunction_t hk) (And.intro (fun c => absurd c (by decide)) (fun _ => gx_run 6 (And.intro (gx_le8 rfl) (And.intro (fun c => And.intro (fun _ => gx_run 12 (gx_ar k rfl hk (by decide) (gx_ar k rfl hk (by decide) (And.intro rfl (gm_F ?_ ?_ ?_ ?_ ?_))))) (fun z => absurd z (by decide))) (fun c => absurd (ga_yx (by decide) hh) c)))))))
  all_goals intro f; unfold va_up
  · unfold upd; by_cases e : f = k <;> simp [e]
  · unfold upd; by_cases e : f = k <;> simp [e]
  · by_cases e : f / 6 = k <;> simp [e]
  · by_cases e : f / 6 = k <;> simp [e]
  · by_cases e : f = k <;> simp [e]
theorem m_accelerate_n (x c : Int32) (hx : (x < 0 ∨ nI 12 ≤ x) ∨ c < 0 ∨ nI 3 < c) : gx_call LL xs (d + 2) z_M_accelerate 0 0 [.ref 43, .int x, .int c] (gm_h pre n μ sp fo pc lp cl tk tc F gv) (fun r h => r = some (.int (-(nI 1))) ∧ h = (gm_h pre n μ sp fo pc lp cl tk tc F gv)) := by
  by_cases h : x < 0 ∨ nI 12 ≤ x
  · exact gs_M_accelerate _ _ _ (gx_run 3 (gx_c1 (gx_le8 rfl) (m_isFunction_f h) (And.intro (fun _ => gx_run 2 (And.intro rfl rfl)) (fun c => absurd rfl c))))
  · rcases pk_ix x (n := 12) (by decide) with c | c | ⟨k, hk, rfl⟩
    · exact absurd (Or.inl c) h
    · exact absurd (Or.inr c) h
    · exact gs_M_accelerate _ _ _ (gx_run 3 (gx_c1 (gx_le8 rfl) (m_isFunction_t hk) (And.intro (fun c => absurd c (by decide)) (fun _ => gx_run 6 (And.intro (gx_le8 rfl) (And.intro (fun c => absurd c (ga_nx (by decide) (hx.resolve_left h))) (fun c => And.intro (fun z => absurd rfl z) (fun _ => gx_run 2 (And.intro rfl rfl)))))))))
theorem m_accelerate {c : Nat} (hk : k < 12) (hc : c ≤ 3) : gx_call LL xs (d + 2) z_M_accelerate 0 0 [.ref 43, .int (nI k), .int (nI c)] (gm_h pre n μ sp fo pc lp cl tk tc F gv) (fun r h => r = some (.int (nI (F k).2.1)) ∧ h = (gm_h pre n μ sp fo pc lp cl tk tc (va_up F k ((F k).1, c, (F k).2.2.1, (F k).2.2.2.1, (F k).2.2.2.2)) gv)) := by
  refine gs_M_accelerate _ _ _ (gx_run 3 (gx_c1 (gx_le8 rfl) (m_isFunction_t hk) (And.intro (fun c => absurd c (by decide)) (fun _ => gx_run 6 (And.intro (gx_le8 rfl) (And.intro (fun c => And.intro (fun _ => gx_run 12 (gx_ar k rfl hk (by decide) (gx_ar k rfl hk (by decide) (And.intro rfl (gm_F ?_ ?_ ?_ ?_ ?_))))) (fun z => absurd z (by decide))) (fun c => absurd (ga_yx (by decide) hc) c)))))))
  all_goals intro f; unfold va_up
  · by_cases e : f = k <;> simp [e]
  · by_cases e : f = k <;> simp [e]
  · by_cases e : f / 6 = k <;> simp [e]
  · by_cases e : f / 6 = k <;> simp [e]
  · unfold upd; by_cases e : f = k <;> simp [e]
theorem m_format_n (x w c : Int32) (hx : (x < 0 ∨ nI 12 ≤ x) ∨ ¬ (w = nI 1 ∨ w = nI 2 ∨ w = nI 4) ∨ c < nI 1 ∨ nI 255 < c) : gx_call LL xs (d + 2) z_M_format 0 0 [.ref 43, .int x, .int w, .int c] (gm_h pre n μ sp fo pc lp cl tk tc F gv) (fun r h => r = some (.int (-(nI 1))) ∧ h = (gm_h pre n μ sp fo pc lp cl tk tc F gv)) := by
  by_cases h : x < 0 ∨ nI 12 ≤ x
  · exact gs_M_format _ _ _ _ (gx_run 3 (gx_c1 (gx_le8 rfl) (m_isFunction_f h) (And.intro (fun _ => gx_run 2 (And.intro rfl rfl)) (fun c => absurd rfl c))))
  · have hx2 := hx.resolve_left h
    rcases pk_ix x (n := 12) (by decide) with c | c | ⟨k, hk, rfl⟩
    · exact absurd (Or.inl c) h
    · exact absurd (Or.inr c) h
    · refine gs_M_format _ _ _ _ (gx_run 3 (gx_c1 (gx_le8 rfl) (m_isFunction_t hk) (And.intro (fun c => absurd c (by decide)) (fun _ => gx_run 3 (gx_c1 (gx_le8 rfl) (m_isWidth w) ?_)))))
      by_cases hw : w = nI 1 ∨ w = nI 2 ∨ w = nI 4
      · rw [if_pos hw]
        refine And.intro (fun c => absurd c (by decide)) (fun _ => gx_run 6 (And.intro (gx_le8 rfl) (And.intro (fun z => ?_) (fun c => And.intro (fun _ => gx_run 2 (And.intro rfl rfl)) (fun z => absurd rfl z)))))
        have h' := (ga_i64c _ 1 255 (by decide) (by decide)).mp z
        rcases hx2 with h2 | h2 | h2
        · exact absurd hw h2
        · exact absurd h2 h'.1
        · exact absurd h2 h'.2
      · rw [if_neg hw]
        exact And.intro (fun _ => gx_run 2 (And.intro rfl rfl)) (fun c => absurd rfl c)
theorem m_format {w c : Nat} (hk : k < 12) (hw : w = 1 ∨ w = 2 ∨ w = 4) (h1 : 1 ≤ c) (h2 : c ≤ 255) (hp : (F k).2.2.1 ≤ 6) : gx_call LL xs (d + 2) z_M_format 0 0 [.ref 43, .int (nI k), .int (nI w), .int (nI c)] (gm_h pre n μ sp fo pc lp cl tk tc F gv) (fun r h => r = some (.int (if (F k).2.2.1 < 6 then nI ((F k).2.2.1 + 1) else -(nI 1))) ∧
    h = (gm_h pre n μ sp fo pc lp cl tk tc (if (F k).2.2.1 < 6 then va_up F k ((F k).1, (F k).2.1, (F k).2.2.1 + 1, va_up (F k).2.2.2.1 (F k).2.2.1 w, va_up (F k).2.2.2.2 (F k).2.2.1 c) else F) gv)) := by
  have hw2 : nI w = nI 1 ∨ nI w = nI 2 ∨ nI w = nI 4 := by
    rcases hw with rfl | rfl | rfl
    · exact Or.inl rfl
    · exact Or.inr (Or.inl rfl)
    · exact Or.inr (Or.inr rfl)
  refine gs_M_format _ _ _ _ (gx_run 3 (gx_c1 (gx_le8 rfl) (m_isFunction_t hk) (And.intro (fun c => absurd c (by decide)) (fun _ => gx_run 3 (gx_c1 (gx_le8 rfl) (m_isWidth (nI w)) ?_)))))
  rw [if_pos hw2]
  refine And.intro (fun c => absurd c (by decide)) (fun _ => gx_run 6 (And.intro (gx_le8 rfl) (And.intro (fun z => And.intro (fun c => absurd c (by decide)) (fun _ => ?_)) (fun c => absurd ((ga_i64c _ 1 255 (by decide) (by decide)).mpr ⟨nI_nlt h1 (by omega), nI_nlt h2 (by omega)⟩) c))))
  by_cases h6 : (F k).2.2.1 < 6
  · rw [if_pos h6, if_pos h6]
    have ei : nI 6 * nI k + nI (F k).2.2.1 = nI (6 * k + (F k).2.2.1) := by rw [pk_mul, nI_add]
    refine gx_run 6 (gx_ar k rfl hk (by decide) (And.intro (fun _ => ?_) (fun c => absurd ((nI_eq (by omega) (by decide)).mp c) (by omega))))
    refine gx_run 37 (gx_ar k rfl hk (by decide) (gx_ar (6 * k + (F k).2.2.1) ei (by omega) (by decide) (gx_ar k rfl hk (by decide) (gx_ar (6 * k + (F k).2.2.1) ei (by omega) (by decide) (gx_ar k rfl hk (by decide) (gx_ar k rfl hk (by decide) (gx_ar k rfl hk (by decide) (And.intro ?_ (gm_F ?_ ?_ ?_ ?_ ?_)))))))))
    · simp [upd, nI_add]
    all_goals intro f; unfold va_up
    · by_cases e : f = k <;> simp [e]
    · unfold upd; by_cases e : f = k <;> simp [e, nI_add]
    · unfold upd
      by_cases e : f / 6 = k
      · by_cases e2 : f % 6 = (F k).2.2.1
        · rw [if_pos (by omega)]; simp [e, e2]
        · rw [if_neg (by omega)]; simp [e, e2]
      · rw [if_neg (by omega)]; simp [e]
    · unfold upd
      by_cases e : f / 6 = k
      · by_cases e2 : f % 6 = (F k).2.2.1
        · rw [if_pos (by omega)]; simp [e, e2]
        · rw [if_neg (by omega)]; simp [e, e2]
      · rw [if_neg (by omega)]; simp [e]
    · by_cases e : f = k <;> simp [e]
  · rw [if_neg h6, if_neg h6]
    exact gx_run 6 (gx_ar k rfl hk (by decide) (And.intro (fun c => absurd (show nI (F k).2.2.1 = nI 6 by rw [show (F k).2.2.1 = 6 by omega]) c) (fun _ => gx_run 2 (And.intro rfl rfl))))
theorem m_hasFrame_n : gx_call LL xs (d + 1) z_M_hasFrame 0 0 [.ref 43] (gm_h pre n μ sp none pc lp cl tk tc F gv) (fun r h => r = some (.int (nI 0)) ∧ h = (gm_h pre n μ sp none pc lp cl tk tc F gv)) :=
  gs_M_hasFrame _ (gx_run 3 (And.intro (fun _ => gx_run 2 (And.intro (Or.inl rfl) (And.intro rfl rfl))) (fun c => absurd (by decide) c)))
theorem m_hasFrame {f : Nat} (hf : f < 2147483648) : gx_call LL xs (d + 1) z_M_hasFrame 0 0 [.ref 43] (gm_h pre n μ sp (some f) pc lp cl tk tc F gv) (fun r h => r = some (.int (nI 1)) ∧ h = (gm_h pre n μ sp (some f) pc lp cl tk tc F gv)) :=
  gs_M_hasFrame _ (gx_run 3 (And.intro (fun c => absurd c (nI_pos hf)) (fun _ => gx_run 3 (And.intro (Or.inr rfl) (And.intro rfl rfl)))))
theorem m_base_l {f : Nat} (hf : f < 2147483648) (hc : tc ≤ 64) (ht : ∀ i, i < tc → tk i < 2147483648) : ∀ (q i : Nat), i + q = tc →
    gx_E LL xs (gx_call LL xs d) cd_M_base (fun r h => r = some (.int (nI (ga_bs μ tk f tc))) ∧ h = (gm_h pre n μ sp (some f) pc lp cl tk tc F gv)) 11 [some (.ref 43), some (.int (nI (ga_bs μ tk f i))), some (.int (nI i))] [] (gm_h pre n μ sp (some f) pc lp cl tk tc F gv) 0 0 := by
  intro q
  induction q with
  | zero =>
    intro i hq
    obtain rfl : i = tc := by omega
    exact gx_run 4 (And.intro (fun _ => gx_run 2 (And.intro rfl rfl)) (fun c => absurd (nI_le (Nat.le_refl i) (by omega)) c))
  | succ q ih =>
    intro i hq
    have h9 := ih (i + 1) (by omega)
    have hti := ht i (by omega)
    rw [ga_bs, ← nI_add i 1] at h9
    refine gx_run 4 (And.intro (fun c => absurd c (nI_ge (show i < tc by omega) (by omega))) (fun _ => gx_run 7 (gx_ar i rfl (show i < 64 by omega) (by decide) ?_)))
    by_cases c : f < tk i
    · rw [if_pos c] at h9
      exact And.intro (fun z => absurd z (nI_ge c hti)) (fun _ => gx_run 8 (gx_ar i rfl (show i < 64 by omega) (by decide) h9))
    · rw [if_neg c] at h9
      exact And.intro (fun _ => gx_run 4 h9) (fun z => absurd (nI_le (Nat.le_of_not_lt c) hf) z)
theorem m_base {f : Nat} (hmk : ga_mk μ sp M) (htk : ga_tk tk M) (hs : sp ≤ 1024) (hf : ga_top M = some f) : gx_call LL xs (d + 2) z_M_base 0 0 [.ref 43] (gm_h pre n μ sp (ga_top M) pc lp cl tk (ga_tc M) F gv) (fun r h => r = some (.int (nI (ga_base μ M))) ∧ h = (gm_h pre n μ sp (ga_top M) pc lp cl tk (ga_tc M) F gv)) := by
  have hft := ga_mk_top hmk hf
  have hcnt := ga_tc_le hmk
  have htl := ga_tk_le hmk htk
  have h9 := m_base_l (LL := LL) (xs := xs) (d := d + 1) (pre := pre) (n := n) (μ := μ) (sp := sp) (f := f) (pc := pc) (lp := lp) (cl := cl) (tk := tk) (tc := ga_tc M) (F := F) (gv := gv) (by omega) (by omega) (fun i hi => by have := htl i hi; omega) (ga_tc M) 0 (Nat.zero_add _)
  rw [ga_bs_base hmk htk hf] at h9
  rw [show ga_bs μ tk f 0 = f + ga_w μ f from rfl, ← nI_add f, ← ga_rdw] at h9
  rw [hf]
  exact gs_M_base _ (gx_run 11 (And.intro ⟨_, rfl⟩ (gx_c1 (gx_le8 rfl) (m_read (by omega)) h9)))
theorem m_values {f : Nat} (hmk : ga_mk μ sp M) (htk : ga_tk tk M) (hs : sp ≤ 1024) (hf : ga_top M = some f) : gx_call LL xs (d + 3) z_M_values 0 0 [.ref 43] (gm_h pre n μ sp (ga_top M) pc lp cl tk (ga_tc M) F gv) (fun r h => r = some (.int (nI (ga_vc μ sp M))) ∧ h = (gm_h pre n μ sp (ga_top M) pc lp cl tk (ga_tc M) F gv)) := by
  refine gs_M_values _ (gx_run 8 (And.intro ⟨_, rfl⟩ (gx_c1 (gx_le8 rfl) (m_base hmk htk hs hf) (And.intro (by decide) (And.intro ?_ rfl)))))
  rw [pk_sub (ga_base_le hmk), pk_div (by omega) (by decide) (by decide)]
  unfold ga_vc
  rw [hf]
theorem m_lengthAt {f : Nat} (hf : f + 4 ≤ 1024) : gx_call LL xs (d + 2) z_M_lengthAt 0 0 [.ref 43, .int (nI f)] (gm_h pre n μ sp fo pc lp cl tk tc F gv) (fun r h => r = some (.int (nI (ga_w μ f))) ∧ h = (gm_h pre n μ sp fo pc lp cl tk tc F gv)) := by
  rw [← ga_rdw]
  exact gs_M_lengthAt _ _ (gx_run 5 (And.intro ⟨_, rfl⟩ (gx_c1 (gx_le8 rfl) (m_read hf) (And.intro rfl rfl))))
theorem m_localsAt {f : Nat} (hf : f + 8 ≤ 1024) : gx_call LL xs (d + 2) z_M_localsAt 0 0 [.ref 43, .int (nI f)] (gm_h pre n μ sp fo pc lp cl tk tc F gv) (fun r h => r = some (.int (nI (ga_w μ (f + 4)))) ∧ h = (gm_h pre n μ sp fo pc lp cl tk tc F gv)) := by
  have hc := m_read (LL := LL) (xs := xs) (d := d) (pre := pre) (n := n) (μ := μ) (sp := sp) (fo := fo) (pc := pc) (lp := lp) (cl := cl) (tk := tk) (tc := tc) (F := F) (gv := gv) (a := f + 4) (w := 4) (by omega)
  rw [← nI_add, ga_rdw] at hc
  exact gs_M_localsAt _ _ (gx_run 7 (And.intro ⟨_, rfl⟩ (gx_c1 (gx_le8 rfl) hc (And.intro rfl rfl))))
theorem m_isPlace (x y : Int32) {h : gx_H} : gx_call LL xs (d + 1) z_M_isPlace 0 0 [.int x, .int y] h (fun r h' => r = some (.int (ga_b (!(decide (x < 0)) && !(decide (y < x))))) ∧ h' = h) := by
  refine gs_M_isPlace _ _ (gx_run 2 (And.intro (fun c => gx_run 2 (And.intro (Or.inl rfl) (And.intro ?_ rfl))) (fun c => gx_run 3 (And.intro (fun c2 => gx_run 2 (And.intro (Or.inl rfl) (And.intro ?_ rfl))) (fun c2 => gx_run 3 (And.intro (Or.inr rfl) (And.intro ?_ rfl)))))))
  · simp [c, ga_b]
  · have c3 : y < x := c2
    simp [c3, ga_b]
  · have c1 : ¬ x < 0 := fun z => absurd z (by first | exact c | exact Int32.not_lt.mpr c)
    have c3 : ¬ y < x := fun z => absurd z (by first | exact c2 | exact Int32.not_lt.mpr c2)
    simp only [c1, c3, ga_b, decide_false, Bool.not_false, Bool.and_true]
theorem m_canGo (way addr : Int32) {fp2 : Option Nat} (hf : ∀ f, fp2 = some f → f + 8 ≤ 1024 ∧ ga_w μ (f + 4) ≤ ga_w μ f) : gx_call LL xs (d + 3) z_M_canGo 0 0 [.ref 43, .int way, .int addr, .int (ga_fp fp2)] (gm_h pre n μ sp fo pc lp cl tk tc F gv) (fun r h => r = some (.int (ga_b (ga_cg μ way addr fp2))) ∧ h = (gm_h pre n μ sp fo pc lp cl tk tc F gv)) := by
  refine gs_M_canGo _ _ _ _ (gx_run 2 (And.intro (fun c => ?_) (And.intro (fun c => ?_) (And.intro (fun c => ?_) (And.intro (fun c => ?_) (And.intro (fun c => ?_) trivial))))))
  · have c0 : ¬ way = nI 0 := c 0 (by decide)
    have c1 : ¬ way = nI 1 := c 1 (by decide)
    have c2 : ¬ way = nI 2 := c 2 (by decide)
    have c3 : ¬ way = nI 3 := c 3 (by decide)
    refine gx_run 2 (And.intro (Or.inl rfl) (And.intro ?_ rfl))
    simp only [ga_cg, if_neg c0, if_neg c1, if_neg c2, if_neg c3, ga_b]
  · have c : way = nI 0 := c
    subst c
    exact gx_run 2 (And.intro (Or.inr rfl) (And.intro rfl rfl))
  · have c : way = nI 1 := c
    subst c
    have e : ga_cg μ (nI 1) addr fp2 = ga_ce addr := rfl
    rw [e]
    refine gx_run 6 (And.intro (gx_le8 rfl) (And.intro (fun c => And.intro (Or.inr rfl) (And.intro ?_ rfl)) (fun c => And.intro (Or.inl rfl) (And.intro ?_ rfl))))
    · obtain ⟨j, hj, rfl⟩ := ga_in (by decide) c
      have h1 : ¬ nI j < 0 := nI_pos (by omega)
      have h2 : ¬ nI 16 ≤ nI j := nI_ge (by omega) (by decide)
      simp only [ga_ce, h1, h2, ga_b, decide_false, Bool.not_false, Bool.and_true]
    · rcases pk_ix addr (n := 16) (by decide) with h | h | ⟨j, hj, rfl⟩
      · simp [ga_ce, h, ga_b]
      · simp [ga_ce, h, ga_b]
      · exact absurd (ga_yx (by decide) (by omega)) c
  · have c : way = nI 2 := c
    subst c
    cases fp2 with
    | none => exact gx_run 2 (And.intro (fun _ => gx_run 2 (And.intro (Or.inl rfl) (And.intro rfl rfl))) (fun c => absurd (by decide) c))
    | some f =>
      obtain ⟨h1, h2⟩ := hf f rfl
      have e : ga_cg μ (nI 2) addr (some f) = ga_il μ f addr (nI 4) := rfl
      rw [e]
      have hc := m_isPlace (LL := LL) (xs := xs) (d := d + 1) addr (nI (ga_w μ f - ga_w μ (f + 4)) - nI 4) (h := (gm_h pre n μ sp fo pc lp cl tk tc F gv))
      rw [← pk_sub h2] at hc
      refine gx_run 2 (And.intro (fun c => absurd c (nI_pos (by omega))) (fun _ => gx_run 12 (And.intro ⟨_, rfl⟩ (gx_c1 (gx_le8 rfl) (m_lengthAt (by omega)) (And.intro ⟨_, rfl⟩ (gx_c1 (gx_le8 rfl) (m_localsAt h1) (gx_c1 (gx_le8 rfl) hc ?_)))))))
      rw [pk_sub h2]
      show (ga_b (ga_il μ f addr (nI 4)) = 0 → _) ∧ (¬ ga_b (ga_il μ f addr (nI 4)) = 0 → _)
      cases ga_il μ f addr (nI 4) with
      | true => exact And.intro (fun c => absurd c (by decide)) (fun _ => gx_run 3 (And.intro (Or.inr rfl) (And.intro rfl rfl)))
      | false => exact And.intro (fun _ => gx_run 2 (And.intro (Or.inl rfl) (And.intro rfl rfl))) (fun c => absurd rfl c)
  · have c : way = nI 3 := c
    subst c
    cases fp2 with
    | none => exact gx_run 2 (And.intro (fun _ => gx_run 2 (And.intro (Or.inl rfl) (And.intro rfl rfl))) (fun c => absurd (by decide) c))
    | some f =>
      obtain ⟨h1, h2⟩ := hf f rfl
      exact gx_run 2 (And.intro (fun c => absurd c (nI_pos (by omega))) (fun _ => gx_run 3 (And.intro (Or.inr rfl) (And.intro rfl rfl))))
theorem m_pushes (v : Int32) (hs : sp + 4 ≤ 1024) : gx_call LL xs (d + 2) z_M_pushes 0 0 [.ref 43, .int v] (gm_h pre n μ sp fo pc lp cl tk tc F gv) (fun r h => r = none ∧ h = (gm_h pre n (ga_wr μ sp 4 v) (sp + 4) fo pc lp cl tk tc F gv)) := by
  refine gs_M_pushes _ _ (gx_run 13 (And.intro ⟨_, rfl⟩ (gx_c1 (gx_le8 rfl) (m_write v hs) (And.intro rfl ?_))))
  rw [nI_add]
  rfl
theorem m_go (way addr v : Int32) (hs : sp ≤ 1024) (hf : ∀ f, fo = some f → f + 8 ≤ 1024 ∧ f + ga_w μ f ≤ 1024) (hcg : ga_cg μ way addr fo = true) (h3 : way = nI 3 → sp + 4 ≤ 1024) :
    gx_call LL xs (d + 3) z_M_go 0 0 [.ref 43, .int way, .int addr, .int v] (gm_h pre n μ sp fo pc lp cl tk tc F gv) (fun r h => r = none ∧ h = (gm_h pre n (ga_g1 μ sp fo way addr v) (ga_g2 sp way) fo pc lp (ga_g3 cl way addr v) tk tc F gv)) := by
  refine gs_M_go _ _ _ _ (gx_run 3 (And.intro (fun c1 => gx_run 3 (And.intro (fun c2 => gx_run 3 (And.intro (fun c3 => ?_) (fun c => ?_))) (fun c => ?_))) (fun c => ?_)))
  · have c1 : ¬ way = nI 1 := c1
    have c2 : ¬ way = nI 2 := c2
    have c3 : ¬ way = nI 3 := c3
    simp only [ga_g1, ga_g2, ga_g3, if_neg c1, if_neg c2, if_neg c3]
    exact gx_run 1 (And.intro rfl rfl)
  · have c : way = nI 3 := c
    subst c
    exact gx_run 4 (And.intro ⟨_, rfl⟩ (gx_c1 (gx_le8 rfl) (m_pushes v (h3 rfl)) (And.intro rfl rfl)))
  · have c : way = nI 2 := c
    subst c
    cases fo with
    | none => exact Bool.noConfusion (show false = true from hcg)
    | some f =>
      obtain ⟨h1, h2⟩ := hf f rfl
      obtain ⟨p, rfl, hp⟩ := ga_il_of (w := 4) (by omega) (by omega) (show ga_il μ f addr (nI 4) = true from hcg)
      have e : ga_g1 μ sp (some f) (nI 2) (nI p) v = ga_wr μ (f + ga_w μ (f + 4) + p) 4 v := by
        show ga_wr μ (f + ga_w μ (f + 4) + (nI p).toNatClampNeg) 4 v = _
        rw [nI_clamp (by omega)]
      rw [e]
      have hc : gx_call LL xs (d + 2) z_M_write 0 0 [.ref 43, .int (nI f + nI (ga_w μ (f + 4)) + nI p), .int (nI 4), .int v] (gm_h pre n μ sp (some f) pc lp cl tk tc F gv) (fun r h => r = none ∧ h = (gm_h pre n (ga_wr μ (f + ga_w μ (f + 4) + p) 4 v) sp (some f) pc lp cl tk tc F gv)) := by
        rw [nI_add, nI_add]
        exact m_write v (by omega)
      exact gx_run 15 (And.intro ⟨_, rfl⟩ (gx_c1 (gx_le8 rfl) (m_localsAt h1) (And.intro ⟨_, rfl⟩ (gx_c1 (gx_le8 rfl) hc (And.intro rfl rfl)))))
  · have c : way = nI 1 := c
    subst c
    obtain ⟨j, hj, rfl⟩ := ga_ce_of (show ga_ce addr = true from hcg)
    refine gx_run 7 (gx_ar j rfl hj (by decide) (And.intro rfl ?_))
    have e : ga_g3 cl (nI 1) (nI j) v = upd cl j v := by
      show upd cl (nI j).toNatClampNeg v = _
      rw [nI_clamp (by omega)]
    rw [e]
    rfl
theorem m_stub (way addr p : Int32) (hs : sp + 16 ≤ 1024) : gx_call LL xs (d + 3) z_M_stub 0 0 [.ref 43, .int way, .int addr, .int p] (gm_h pre n μ sp fo pc lp cl tk tc F gv) (fun r h => r = none ∧ h = (gm_h pre n (ga_st μ sp way addr p (ga_fp fo)) (sp + 16) fo pc lp cl tk tc F gv)) := by
  have c1 := m_pushes (LL := LL) (xs := xs) (d := d) (pre := pre) (n := n) (μ := μ) (sp := sp) (fo := fo) (pc := pc) (lp := lp) (cl := cl) (tk := tk) (tc := tc) (F := F) (gv := gv) way (by omega)
  have c2 := m_pushes (LL := LL) (xs := xs) (d := d) (pre := pre) (n := n) (μ := ga_wr μ sp 4 way) (sp := sp + 4) (fo := fo) (pc := pc) (lp := lp) (cl := cl) (tk := tk) (tc := tc) (F := F) (gv := gv) addr (by omega)
  have c3 := m_pushes (LL := LL) (xs := xs) (d := d) (pre := pre) (n := n) (μ := ga_wr (ga_wr μ sp 4 way) (sp + 4) 4 addr) (sp := sp + 4 + 4) (fo := fo) (pc := pc) (lp := lp) (cl := cl) (tk := tk) (tc := tc) (F := F) (gv := gv) p (by omega)
  have c4 := m_pushes (LL := LL) (xs := xs) (d := d) (pre := pre) (n := n) (μ := ga_wr (ga_wr (ga_wr μ sp 4 way) (sp + 4) 4 addr) (sp + 4 + 4) 4 p) (sp := sp + 4 + 4 + 4) (fo := fo) (pc := pc) (lp := lp) (cl := cl) (tk := tk) (tc := tc) (F := F) (gv := gv) (ga_fp fo) (by omega)
  exact gs_M_stub _ _ _ _ (gx_run 14 (And.intro ⟨_, rfl⟩ (gx_c1 (gx_le8 rfl) c1 (And.intro ⟨_, rfl⟩ (gx_c1 (gx_le8 rfl) c2 (And.intro ⟨_, rfl⟩ (gx_c1 (gx_le8 rfl) c3 (And.intro ⟨_, rfl⟩ (gx_c1 (gx_le8 rfl) c4 (And.intro rfl rfl))))))))))
theorem m_forget {p c : Nat} (hp : p < 2147483648) (hlow : ∀ c', c = c' + 1 → tk c' < p) : ∀ (m : Nat) (tc : Nat), tc = c + m → tc ≤ 64 → (∀ i, c ≤ i → i < tc → p ≤ tk i ∧ tk i < 2147483648) →
    gx_E LL xs (gx_call LL xs d) cd_M_forget (fun r h => r = none ∧ h = (gm_h pre n μ sp fo pc lp cl tk c F gv)) 0 [some (.ref 43), some (.int (nI p))] [] (gm_h pre n μ sp fo pc lp cl tk tc F gv) 0 0 := by
  intro m
  induction m with
  | zero =>
    intro tc hm hc hi
    obtain rfl : tc = c := by omega
    cases tc with
    | zero => exact gx_run 3 (And.intro (fun _ => gx_run 1 (And.intro rfl rfl)) (fun h => absurd (by decide) h))
    | succ c' =>
      have h1 := hlow c' rfl
      refine gx_run 3 (And.intro (fun h => absurd h (nI_nle (by omega) (by omega))) (fun _ => gx_run 9 (gx_ar c' (pk_sub (Nat.le_add_left 1 c')) (show c' < 64 by omega) (by decide) ?_)))
      exact And.intro (fun _ => gx_run 1 (And.intro rfl rfl)) (fun h => absurd (nI_lt h1 (by omega)) h)
  | succ m ih =>
    intro tc hm hc hi
    obtain ⟨c', rfl⟩ : ∃ c', tc = c' + 1 := ⟨tc - 1, by omega⟩
    have h1 := hi c' (by omega) (by omega)
    refine gx_run 3 (And.intro (fun h => absurd h (nI_nle (by omega) (by omega))) (fun _ => gx_run 9 (gx_ar c' (pk_sub (Nat.le_add_left 1 c')) (show c' < 64 by omega) (by decide) ?_)))
    refine And.intro (fun h => absurd h (nI_nlt h1.1 h1.2)) (fun _ => gx_run 7 ?_)
    have e : nI (c' + 1) - nI 1 = nI c' := pk_sub (Nat.le_add_left 1 c')
    have h9 := ih c' (by omega) (by omega) (fun i a b => hi i a (by omega))
    rw [show (gm_h pre n μ sp fo pc lp cl tk c' F gv) = (gm_h pre n μ sp fo pc lp cl tk (c' + 1) F gv).set 43 (.inr (.inr (3, [.int (nI n), .ref 44, .int (nI sp), .int (ga_fp fo), .int pc, .ref 45, .ref 46, .ref 47, .ref 48, .ref 49, .ref 50, .ref 51, .int (nI (c' + 1) - nI 1), .int lp, .ref 52]))) from by rw [e]; rfl] at h9
    exact h9
theorem m_drop {p c : Nat} (hp : p < 2147483648) (hlow : ∀ c', c = c' + 1 → tk c' < p) (hcc : c ≤ tc) (hc : tc ≤ 64) (hi : ∀ i, c ≤ i → i < tc → p ≤ tk i ∧ tk i < 2147483648) : gx_call LL xs (d + 1) z_M_forget 0 0 [.ref 43, .int (nI p)] (gm_h pre n μ sp fo pc lp cl tk tc F gv) (fun r h => r = none ∧ h = (gm_h pre n μ sp fo pc lp cl tk c F gv)) :=
  gs_M_forget _ _ (m_forget hp hlow (tc - c) tc (by omega) hc hi)
theorem m_result_l {acc m : Nat} (hm : m ≤ 256) (ha : acc = 1 ∨ acc = 2 ∨ acc = 3) : ∀ (q i : Nat), i + q = m → (acc = 2 → 0 < i) →
    gx_E LL xs (gx_call LL xs d) cd_M_result (fun r h => r = some (.int (ga_gb acc gv m)) ∧ h = (gm_h pre n μ sp fo pc lp cl tk tc F gv)) 19 [some (.ref 43), some (.int (nI acc)), some (.int (nI m)), some (.int (ga_gb acc gv i)), some (.int (nI i))] [] (gm_h pre n μ sp fo pc lp cl tk tc F gv) 0 0 := by
  intro q
  induction q with
  | zero =>
    intro i hq h2
    obtain rfl : i = m := by omega
    exact gx_run 3 (And.intro (fun _ => gx_run 2 (And.intro rfl rfl)) (fun c => absurd (nI_le (Nat.le_refl i) (by omega)) c))
  | succ q ih =>
    intro i hq h2
    have h9 := ih (i + 1) (by omega) (fun _ => by omega)
    rw [← nI_add i 1] at h9
    refine gx_run 3 (And.intro (fun c => absurd c (nI_ge (show i < m by omega) (by omega))) (fun _ => gx_run 3 ?_))
    rcases ha with rfl | rfl | rfl
    · exact And.intro (fun c => absurd rfl c) (fun _ => gx_run 10 (gx_ar i rfl (show i < 256 by omega) (by decide) h9))
    · rw [show ga_gb 2 gv (i + 1) = if i = 0 then gv i else ga_gb 2 gv i - gv i from rfl, if_neg (by have := h2 rfl; omega)] at h9
      exact And.intro (fun _ => gx_run 3 (And.intro (fun c => absurd rfl c) (fun _ => gx_run 10 (gx_ar i rfl (show i < 256 by omega) (by decide) h9)))) (fun c => absurd c (by decide))
    · rw [show ga_gb 3 gv (i + 1) = ga_gb 3 gv i + (if 0 < gv i then nI 1 else nI 0) from rfl] at h9
      refine And.intro (fun _ => gx_run 3 (And.intro (fun _ => gx_run 5 (gx_ar i rfl (show i < 256 by omega) (by decide) (And.intro (fun c => ?_) (fun c => ?_)))) (fun c => absurd c (by decide)))) (fun c => absurd c (by decide))
      · have c' : ¬ 0 < gv i := Int32.not_lt.mpr c
        rw [if_neg c', show ∀ x : Int32, x + nI 0 = x from fun x => by rw [nI_0, Int32.add_zero]] at h9
        exact gx_run 4 h9
      · have c' : 0 < gv i := Int32.not_le.mp c
        rw [if_pos c'] at h9
        exact gx_run 7 h9
theorem m_result {acc m : Nat} (hm : m ≤ 256) (ha : acc = 1 ∨ acc = 2 ∨ acc = 3) : gx_call LL xs (d + 1) z_M_result 0 0 [.ref 43, .int (nI acc), .int (nI m)] (gm_h pre n μ sp fo pc lp cl tk tc F gv) (fun r h => r = some (.int (ga_gb acc gv m)) ∧ h = (gm_h pre n μ sp fo pc lp cl tk tc F gv)) := by
  rcases ha with rfl | rfl | rfl
  · exact gs_M_result _ _ _ (gx_run 3 (And.intro (fun _ => gx_run 5 (And.intro (fun _ => gx_run 2 (m_result_l hm (Or.inl rfl) m 0 (Nat.zero_add m) (fun c => absurd c (by decide)))) (fun c => absurd c (by decide)))) (fun c => absurd c (by decide))))
  · refine gs_M_result _ _ _ (gx_run 3 (And.intro (fun c => absurd rfl c) (fun _ => gx_run 2 ?_)))
    cases m with
    | zero => exact And.intro (fun _ => gx_run 5 (And.intro (fun c => absurd rfl c) (fun _ => gx_run 3 (gx_run 3 (And.intro (fun _ => gx_run 2 (And.intro rfl rfl)) (fun c => absurd (by decide) c)))))) (fun c => absurd (by decide) c)
    | succ m => exact And.intro (fun c => absurd c (nI_nle (by omega) (by omega))) (fun _ => gx_run 9 (gx_ar 0 rfl (show 0 < 256 by decide) (by decide) (And.intro (fun c => absurd rfl c) (fun _ => gx_run 3 (m_result_l hm (Or.inr (Or.inl rfl)) m 1 (Nat.add_comm 1 m) (fun _ => by decide))))))
  · exact gs_M_result _ _ _ (gx_run 3 (And.intro (fun _ => gx_run 5 (And.intro (fun _ => gx_run 2 (m_result_l hm (Or.inr (Or.inr rfl)) m 0 (Nat.zero_add m) (fun c => absurd c (by decide)))) (fun c => absurd c (by decide)))) (fun c => absurd c (by decide))))
theorem m_take_l {m : Nat} (hm : 4 * m ≤ sp) (hs : sp ≤ 1024) : ∀ (q i : Nat), i + q = m →
    gx_E LL xs (gx_call LL xs (d + 1)) cd_M_take (fun r h => r = none ∧ h = (gm_h pre n μ sp fo pc lp cl tk tc F (ga_tv μ sp m gv))) 2 [some (.ref 43), some (.int (nI m)), some (.int (nI i))] [] (gm_h pre n μ sp fo pc lp cl tk tc F (ga_tv μ sp i gv)) 0 0 := by
  intro q
  induction q with
  | zero =>
    intro i hq
    obtain rfl : i = m := by omega
    exact gx_run 3 (And.intro (fun _ => gx_run 1 (And.intro rfl rfl)) (fun c => absurd (nI_le (Nat.le_refl i) (by omega)) c))
  | succ q ih =>
    intro i hq
    have hc := m_read (LL := LL) (xs := xs) (d := d) (pre := pre) (n := n) (μ := μ) (sp := sp) (fo := fo) (pc := pc) (lp := lp) (cl := cl) (tk := tk) (tc := tc) (F := F) (gv := ga_tv μ sp i gv) (a := sp - 4 * (i + 1)) (w := 4) (by omega)
    rw [show sp - 4 * (i + 1) = sp - 4 - 4 * i by omega, ← pk_sub (show 4 * i ≤ sp - 4 by omega), ← pk_sub (show 4 ≤ sp by omega), ← pk_mul] at hc
    refine gx_run 3 (And.intro (fun c => absurd c (nI_ge (show i < m by omega) (by omega))) (fun _ => gx_run 17 (And.intro ⟨_, rfl⟩ (gx_c1 (gx_le8 rfl) hc (gx_ar i rfl (show i < 256 by omega) (by omega) ?_)))))
    have h9 := ih (i + 1) (by omega)
    rw [← nI_add i 1, ← ga_tv_s, show sp - 4 * (i + 1) = sp - 4 - 4 * i by omega] at h9
    exact h9
theorem m_take {m : Nat} (hm : 4 * m ≤ sp) (hs : sp ≤ 1024) : gx_call LL xs (d + 2) z_M_take 0 0 [.ref 43, .int (nI m)] (gm_h pre n μ sp fo pc lp cl tk tc F gv) (fun r h => r = none ∧ h = (gm_h pre n μ sp fo pc lp cl tk tc F (ga_tv μ sp m gv))) := by
  have h9 := m_take_l (LL := LL) (xs := xs) (d := d) (pre := pre) (n := n) (μ := μ) (sp := sp) (fo := fo) (pc := pc) (lp := lp) (cl := cl) (tk := tk) (tc := tc) (F := F) (gv := gv) hm hs m 0 (Nat.zero_add m)
  rw [ga_tv_0] at h9
  exact gs_M_take _ _ (gx_run 2 h9)
end GMC
