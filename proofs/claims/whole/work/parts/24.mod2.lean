/-! The reference: functions, locals, values. -/
theorem ga_in {x : Int32} {c : Nat} (hc : c < 2147483647) (h : lN 0 ≤ x.toInt64 ∧ x.toInt64 ≤ lN c) : ∃ j, j ≤ c ∧ x = nI j := by
  have h' := (ga_i64 x c (by omega)).mp h
  obtain ⟨j, hj, rfl⟩ := nI_of h'.1
  refine ⟨j, ?_, rfl⟩
  rcases Nat.lt_or_ge c j with z | z
  · exact absurd (nI_lt z hj) h'.2
  · exact z
theorem ga_ni {x : Int32} {c : Nat} (hc : c < 2147483647) (h : ¬ (lN 0 ≤ x.toInt64 ∧ x.toInt64 ≤ lN c)) : ∀ j, j ≤ c → ¬ x = nI j := fun j hj e => by
  subst e
  exact h ((ga_i64 _ c (by omega)).mpr ⟨nI_pos (by omega), nI_nlt hj (by omega)⟩)
theorem ga_nx {x : Int32} {c : Nat} (hc : c < 2147483647) (h : x < 0 ∨ nI c < x) : ¬ (lN 0 ≤ x.toInt64 ∧ x.toInt64 ≤ lN c) := fun z => by
  have h' := (ga_i64 x c (by omega)).mp z
  rcases h with h | h
  · exact h'.1 h
  · exact h'.2 h
theorem ga_yx {x c : Nat} (hc : c < 2147483647) (h : x ≤ c) : lN 0 ≤ (nI x).toInt64 ∧ (nI x).toInt64 ≤ lN c := (ga_i64 _ c (by omega)).mpr ⟨nI_pos (by omega), nI_nlt h (by omega)⟩
def ga_po (wd ct : Nat → Nat) (i m at_ left : Nat) : Nat := (ga_pl wd ct i m at_ left).getD (ga_fl wd ct i m at_)
theorem ga_pl_none {wd ct : Nat → Nat} : ∀ (m j at_ left : Nat), ga_lc ct (j + m) ≤ left + ga_lc ct j → ga_pl wd ct j m at_ left = none
  | 0, _, _, _, _ => rfl
  | m + 1, j, at_, left, h => by
    have h4 : ga_lc ct (j + 1) = ga_lc ct j + ct j := rfl
    have h5 := ga_lc_mono (ct := ct) (show j + 1 ≤ j + (m + 1) by omega)
    unfold ga_pl
    rw [if_neg (by omega)]
    exact ga_pl_none m (j + 1) _ _ (by rw [show j + 1 + m = j + (m + 1) by omega]; omega)
theorem ga_pl_add {wd ct : Nat → Nat} {B : Nat} (hB : B % 4 = 0) : ∀ {m j at_ left : Nat}, (∀ q, j ≤ q → q < j + m → (wd q = 1 ∨ wd q = 2 ∨ wd q = 4)) → ga_pl wd ct j m (B + at_) left = (ga_pl wd ct j m at_ left).map (B + ·)
  | 0, _, _, _, _ => rfl
  | m + 1, j, at_, left, hw => by
    unfold ga_pl
    rw [ga_up_add (hw j (Nat.le_refl _) (by omega)) hB]
    by_cases c : left < ct j
    · rw [if_pos c, if_pos c, Nat.add_assoc]
      rfl
    · rw [if_neg c, if_neg c, Nat.add_assoc]
      exact ga_pl_add hB (fun q a b => hw q (by omega) (by omega))
theorem ga_po_in {f : ga_F} (hw : ga_wf f) {k : Nat} (hk : k < ga_ls f) : ga_po f.2.2.2.1 f.2.2.2.2 0 f.2.2.1 (ga_lb f) k = ga_lb f + ga_pc f k := by
  have h := ga_pl_add (wd := f.2.2.2.1) (ct := f.2.2.2.2) (B := ga_lb f) (ga_lb4 f) (m := f.2.2.1) (j := 0) (at_ := 0) (left := k) (fun q _ h => (hw.2.2.2 q (by omega)).1)
  rw [Nat.add_zero, (ga_pc_in hw hk).1] at h
  unfold ga_po
  rw [h]
  rfl
theorem ga_po_end {f : ga_F} : ga_po f.2.2.2.1 f.2.2.2.2 0 f.2.2.1 (ga_lb f) (ga_ls f) = ga_fl f.2.2.2.1 f.2.2.2.2 0 f.2.2.1 (ga_lb f) := by
  unfold ga_po
  rw [ga_pl_none _ _ _ _ (by rw [Nat.zero_add]; exact Nat.le_add_right _ _)]
  rfl
section GMB
variable {LL : Nat} {xs : Nat → Int32} {d : Nat} {pre : Nat → gx_A} {n : Nat} {μ : Nat → Nat} {sp : Nat} {fo : Option Nat} {pc lp : Int32} {cl : Nat → Int32} {tk : Nat → Nat} {tc : Nat} {F : Nat → ga_F} {gv : Nat → Int32} {k : Nat}
theorem m_locals (hk : k < 12) (hp : (F k).2.2.1 ≤ 6) : gx_call LL xs (d + 1) z_M_locals 0 0 [.ref 43, .int (nI k)] (gm_h pre n μ sp fo pc lp cl tk tc F gv) (fun r h => r = some (.int (nI (ga_ls (F k)))) ∧ h = (gm_h pre n μ sp fo pc lp cl tk tc F gv)) :=
  gs_M_locals _ _ (gx_run 4 (m_locals_l hk hp _ 0 (Nat.zero_add _)))
theorem m_placeOf_l (hk : k < 12) (hw : ga_wf (F k)) : ∀ (m p at_ left : Nat) (L0 : Value) (w6 w7 : Option Value), p + m = (F k).2.2.1 → at_ + m * 1024 ≤ 10000 → left < 2147483648 →
    gx_E LL xs (gx_call LL xs (d + 1)) cd_M_placeOf (fun r h => r = some (.int (nI (ga_po (F k).2.2.2.1 (F k).2.2.2.2 p m at_ left))) ∧ h = (gm_h pre n μ sp fo pc lp cl tk tc F gv)) 8 [some (.ref 43), some (.int (nI k)), some L0, some (.int (nI at_)), some (.int (nI left)), some (.int (nI p)), w6, w7] [] (gm_h pre n μ sp fo pc lp cl tk tc F gv) 0 0 := by
  intro m
  induction m with
  | zero =>
    intro p at_ left L0 w6 w7 hm ha hl
    have hp := hw.2.2.1
    exact gx_run 6 (gx_ar k rfl hk (by decide) (And.intro (fun _ => gx_run 2 (And.intro rfl rfl)) (fun c => absurd (nI_le (show (F k).2.2.1 ≤ p by omega) (by omega)) c)))
  | succ m ih =>
    intro p at_ left L0 w6 w7 hm ha hl
    have hp := hw.2.2.1
    obtain ⟨e1, e2⟩ := ga_dm (f := k) (p := p) (by omega)
    obtain ⟨hwp, hc1, hc2⟩ := hw.2.2.2 p (by omega)
    have hu := ga_up_lt (u := (F k).2.2.2.1 p) (x := at_) (by omega)
    have hml := ga_mul_le hwp hc2
    have hc : gx_call LL xs (d + 1) z_M_up 0 0 [.int (nI at_), .int (nI ((F ((6 * k + p) / 6)).2.2.2.1 ((6 * k + p) % 6)))] (gm_h pre n μ sp fo pc lp cl tk tc F gv) (fun r h => r = some (.int (nI (ga_up ((F k).2.2.2.1 p) at_))) ∧ h = (gm_h pre n μ sp fo pc lp cl tk tc F gv)) := by
      rw [e1, e2]
      exact m_up (by omega) (by omega) (by omega)
    refine gx_run 6 (gx_ar k rfl hk (by decide) (And.intro (fun c => absurd c (nI_ge (show p < (F k).2.2.1 by omega) (by omega))) (fun _ => gx_run 25 (gx_ar (6 * k + p) (by rw [pk_mul, nI_add]) (by omega) (by decide) (gx_ar (6 * k + p) (by rw [pk_mul, nI_add]) (by omega) (by decide) (gx_c1 (gx_le8 rfl) hc ?_))))))
    simp only [e1, e2]
    by_cases c : left < (F k).2.2.2.2 p
    · refine And.intro (fun z => absurd z (nI_ge c (by omega))) (fun _ => gx_run 6 (And.intro ?_ rfl))
      unfold ga_po ga_pl
      rw [if_pos c, pk_mul, nI_add]
      rfl
    · refine And.intro (fun _ => gx_run 12 ?_) (fun z => absurd (nI_le (Nat.le_of_not_lt c) hl) z)
      have h9 := ih (p + 1) (ga_up ((F k).2.2.2.1 p) at_ + (F k).2.2.2.2 p * (F k).2.2.2.1 p) (left - (F k).2.2.2.2 p) L0 (some (.int (nI ((F k).2.2.2.1 p)))) (some (.int (nI ((F k).2.2.2.2 p)))) (by omega) (by omega) (by omega)
      have e : ga_po (F k).2.2.2.1 (F k).2.2.2.2 p (m + 1) at_ left = ga_po (F k).2.2.2.1 (F k).2.2.2.2 (p + 1) m (ga_up ((F k).2.2.2.1 p) at_ + (F k).2.2.2.2 p * (F k).2.2.2.1 p) (left - (F k).2.2.2.2 p) := by
        unfold ga_po
        rw [ga_pl, ga_fl, if_neg c]
      rw [e]
      rw [← nI_add p 1, ← nI_add (ga_up _ _), ← pk_mul, ← pk_sub (Nat.le_of_not_lt c)] at h9
      exact h9
theorem m_placeOf (hk : k < 12) (hw : ga_wf (F k)) {q : Nat} (hq : q < 2147483648) : gx_call LL xs (d + 3) z_M_placeOf 0 0 [.ref 43, .int (nI k), .int (nI q)] (gm_h pre n μ sp fo pc lp cl tk tc F gv) (fun r h => r = some (.int (nI (ga_po (F k).2.2.2.1 (F k).2.2.2.2 0 (F k).2.2.1 (ga_lb (F k)) q))) ∧ h = (gm_h pre n μ sp fo pc lp cl tk tc F gv)) := by
  have hp := hw.2.2.1
  have h1 : ga_lb (F k) < 10 + 2 * (F k).2.2.1 + 4 := ga_up_lt (by decide)
  exact gs_M_placeOf _ _ _ (gx_run 8 (And.intro ⟨_, rfl⟩ (gx_c1 (gx_le8 rfl) (m_begin hk hp) (m_placeOf_l hk hw _ 0 _ q _ _ _ (Nat.zero_add _) (by omega) hq))))
theorem m_widthOf_l (hk : k < 12) (hw : ga_wf (F k)) : ∀ (m p left : Nat) (L0 : Value), p + m = (F k).2.2.1 → left < 2147483648 →
    gx_E LL xs (gx_call LL xs d) cd_M_widthOf (fun r h => r = some (.int (nI (ga_wo (F k).2.2.2.1 (F k).2.2.2.2 p m left))) ∧ h = (gm_h pre n μ sp fo pc lp cl tk tc F gv)) 4 [some (.ref 43), some (.int (nI k)), some L0, some (.int (nI left)), some (.int (nI p))] [] (gm_h pre n μ sp fo pc lp cl tk tc F gv) 0 0 := by
  intro m
  induction m with
  | zero =>
    intro p left L0 hm hl
    have hp := hw.2.2.1
    exact gx_run 6 (gx_ar k rfl hk (by decide) (And.intro (fun _ => gx_run 2 (And.intro rfl rfl)) (fun c => absurd (nI_le (show (F k).2.2.1 ≤ p by omega) (by omega)) c)))
  | succ m ih =>
    intro p left L0 hm hl
    have hp := hw.2.2.1
    obtain ⟨e1, e2⟩ := ga_dm (f := k) (p := p) (by omega)
    obtain ⟨hwp, hc1, hc2⟩ := hw.2.2.2 p (by omega)
    refine gx_run 6 (gx_ar k rfl hk (by decide) (And.intro (fun c => absurd c (nI_ge (show p < (F k).2.2.1 by omega) (by omega))) (fun _ => gx_run 10 (gx_ar (6 * k + p) (by rw [pk_mul, nI_add]) (by omega) (by decide) ?_))))
    by_cases c : left < (F k).2.2.2.2 p
    · refine And.intro (fun z => absurd z ?_) (fun _ => gx_run 9 (gx_ar (6 * k + p) (by rw [pk_mul, nI_add]) (by omega) (by decide) (And.intro ?_ rfl)))
      · simp only [e1, e2]
        exact nI_ge c (by omega)
      · simp only [e1, e2]
        unfold ga_wo
        rw [if_pos c]
    · refine And.intro (fun _ => gx_run 13 (gx_ar (6 * k + p) (by rw [pk_mul, nI_add]) (by omega) (by decide) ?_)) (fun z => absurd ?_ z)
      · simp only [e1, e2]
        have h9 := ih (p + 1) (left - (F k).2.2.2.2 p) L0 (by omega) (by omega)
        have e : ga_wo (F k).2.2.2.1 (F k).2.2.2.2 p (m + 1) left = ga_wo (F k).2.2.2.1 (F k).2.2.2.2 (p + 1) m (left - (F k).2.2.2.2 p) := by
          rw [ga_wo, if_neg c]
        rw [e]
        rw [← nI_add p 1, ← pk_sub (Nat.le_of_not_lt c)] at h9
        exact h9
      · simp only [e1, e2]
        exact nI_le (Nat.le_of_not_lt c) hl
theorem m_widthOf (hk : k < 12) (hw : ga_wf (F k)) {q : Nat} (hq : q < 2147483648) : gx_call LL xs (d + 1) z_M_widthOf 0 0 [.ref 43, .int (nI k), .int (nI q)] (gm_h pre n μ sp fo pc lp cl tk tc F gv) (fun r h => r = some (.int (nI (ga_wk (F k) q))) ∧ h = (gm_h pre n μ sp fo pc lp cl tk tc F gv)) :=
  gs_M_widthOf _ _ _ (gx_run 4 (m_widthOf_l hk hw _ 0 q _ (Nat.zero_add _) hq))
theorem ga_ls_le {f : ga_F} (hw : ga_wf f) : ga_ls f ≤ 1530 := by
  have h : ∀ p, p ≤ f.2.2.1 → ga_lc f.2.2.2.2 p ≤ 255 * p := by
    intro p
    induction p with
    | zero => intro _; exact Nat.zero_le _
    | succ p ih =>
      intro hp
      have h1 := ih (by omega)
      have h2 := (hw.2.2.2 p (by omega)).2.2
      show ga_lc f.2.2.2.2 p + f.2.2.2.2 p ≤ _
      omega
  have h1 := h _ (Nat.le_refl _)
  have h2 := hw.2.2.1
  unfold ga_ls
  omega
theorem ga_fl_8000 {f : ga_F} (hw : ga_wf f) : ga_fl f.2.2.2.1 f.2.2.2.2 0 f.2.2.1 (ga_lb f) ≤ 8000 := by
  have h1 : ga_lb f < 10 + 2 * f.2.2.1 + 4 := ga_up_lt (by decide)
  have h2 := hw.2.2.1
  have h3 := ga_fl_le (wd := f.2.2.2.1) (ct := f.2.2.2.2) (m := f.2.2.1) (i := 0) (at_ := ga_lb f) (fun j _ h => ⟨(hw.2.2.2 j (by omega)).1, (hw.2.2.2 j (by omega)).2.2⟩)
  omega
theorem m_lengthOf (hk : k < 12) (hw : ga_wf (F k)) : gx_call LL xs (d + 4) z_M_lengthOf 0 0 [.ref 43, .int (nI k)] (gm_h pre n μ sp fo pc lp cl tk tc F gv) (fun r h => r = some (.int (nI (ga_len (F k)))) ∧ h = (gm_h pre n μ sp fo pc lp cl tk tc F gv)) := by
  have h1 := ga_ls_le hw
  have h2 := ga_fl_8000 hw
  have hc := m_placeOf (LL := LL) (xs := xs) (d := d) (pre := pre) (n := n) (μ := μ) (sp := sp) (fo := fo) (pc := pc) (lp := lp) (cl := cl) (tk := tk) (tc := tc) (gv := gv) hk hw (q := ga_ls (F k)) (by omega)
  rw [ga_po_end] at hc
  exact gs_M_lengthOf _ _ (gx_run 9 (And.intro ⟨_, rfl⟩ (gx_c1 (gx_le8 rfl) (m_locals hk hw.2.2.1) (And.intro ⟨_, rfl⟩ (gx_c1 (gx_le8 rfl) hc (gx_c1 (gx_le8 rfl) (m_up (by decide) (by decide) (by omega)) (And.intro rfl rfl)))))))
theorem m_room (hk : k < 12) (hw : ga_wf (F k)) {m : Nat} : gx_call LL xs (d + 5) z_M_room 0 0 [.ref 43, .int (nI k), .int (nI m)] (gm_h pre n μ sp fo pc lp cl tk tc F gv) (fun r h => r = some (.int (nI (ga_room (F k) m))) ∧ h = (gm_h pre n μ sp fo pc lp cl tk tc F gv)) := by
  refine gs_M_room _ _ _ (gx_run 9 (And.intro ⟨_, rfl⟩ (gx_c1 (gx_le8 rfl) (m_lengthOf hk hw) (gx_ar k rfl hk (by decide) ?_))))
  have h255 := hw.1
  by_cases h : (F k).1 = 192
  · refine And.intro (fun c => absurd (show nI (F k).1 = nI 192 by rw [h]) c) (fun _ => gx_run 8 (And.intro ?_ rfl))
    rw [nI_add, pk_mul, nI_add]
    unfold ga_room
    rw [if_pos h]
  · refine And.intro (fun _ => gx_run 3 (And.intro ?_ rfl)) (fun c => absurd ((nI_eq (by omega) (by decide)).mp c) h)
    unfold ga_room
    rw [if_neg h, nI_add]
theorem m_told_n (x w : Int32) (hx : x < 0 ∨ nI 12 ≤ x) : gx_call LL xs (d + 2) z_M_told 0 0 [.ref 43, .int x, .int w] (gm_h pre n μ sp fo pc lp cl tk tc F gv) (fun r h => r = some (.int (-(nI 1))) ∧ h = (gm_h pre n μ sp fo pc lp cl tk tc F gv)) :=
  gs_M_told _ _ _ (gx_run 3 (gx_c1 (gx_le8 rfl) (m_isFunction_f hx) (And.intro (fun _ => gx_run 2 (And.intro rfl rfl)) (fun c => absurd rfl c))))
theorem m_told (x : Int32) (hk : k < 12) (hw : ga_wf (F k)) : gx_call LL xs (d + 5) z_M_told 0 0 [.ref 43, .int (nI k), .int x] (gm_h pre n μ sp fo pc lp cl tk tc F gv) (fun r h => r = some (.int (ga_td (F k) x)) ∧ h = (gm_h pre n μ sp fo pc lp cl tk tc F gv)) := by
  refine gs_M_told _ _ _ (gx_run 3 (gx_c1 (gx_le8 rfl) (m_isFunction_t hk) (And.intro (fun c => absurd c (by decide)) (fun _ => gx_run 6 (And.intro (gx_le8 rfl) (And.intro (fun c => And.intro (fun _ => ?_) (fun z => absurd z (by decide))) (fun c => And.intro (fun z => absurd rfl z) (fun _ => gx_run 2 (And.intro ?_ rfl)))))))))
  · obtain ⟨j, hj, rfl⟩ := ga_in (by decide) c
    refine gx_run 2 (And.intro (fun c => ?_) (And.intro (fun c => ?_) (And.intro (fun c => ?_) (And.intro (fun c => ?_) (And.intro (fun c => ?_) trivial)))))
    · have c0 : ¬ nI j = nI 0 := c 0 (by decide)
      have c1 : ¬ nI j = nI 1 := c 1 (by decide)
      have c2 : ¬ nI j = nI 2 := c 2 (by decide)
      have c3 : ¬ nI j = nI 3 := c 3 (by decide)
      obtain rfl : j = 4 := by
        rcases (show j = 0 ∨ j = 1 ∨ j = 2 ∨ j = 3 ∨ j = 4 by omega) with rfl | rfl | rfl | rfl | rfl <;> first | contradiction | rfl
      exact gx_run 4 (And.intro ⟨_, rfl⟩ (gx_c1 (gx_le8 rfl) (m_begin hk hw.2.2.1) (And.intro rfl rfl)))
    · rw [show nI j = nI 0 from c]
      exact gx_run 5 (gx_ar k rfl hk (by decide) (And.intro rfl rfl))
    · rw [show nI j = nI 1 from c]
      exact gx_run 5 (gx_ar k rfl hk (by decide) (And.intro rfl rfl))
    · rw [show nI j = nI 2 from c]
      exact gx_run 4 (And.intro ⟨_, rfl⟩ (gx_c1 (gx_le8 rfl) (m_locals hk hw.2.2.1) (And.intro rfl rfl)))
    · rw [show nI j = nI 3 from c]
      exact gx_run 4 (And.intro ⟨_, rfl⟩ (gx_c1 (gx_le8 rfl) (m_lengthOf hk hw) (And.intro rfl rfl)))
  · have h := ga_ni (by decide) c
    unfold ga_td
    rw [if_neg (h 0 (by decide)), if_neg (h 1 (by decide)), if_neg (h 2 (by decide)), if_neg (h 3 (by decide)), if_neg (h 4 (by decide))]
theorem m_local_n (x q : Int32) (hx : x < 0 ∨ nI 12 ≤ x) : gx_call LL xs (d + 2) z_M_local 0 0 [.ref 43, .int x, .int q] (gm_h pre n μ sp fo pc lp cl tk tc F gv) (fun r h => r = some (.int (-(nI 1))) ∧ h = (gm_h pre n μ sp fo pc lp cl tk tc F gv)) :=
  gs_M_local _ _ _ (gx_run 3 (gx_c1 (gx_le8 rfl) (m_isFunction_f hx) (And.intro (fun _ => gx_run 2 (And.intro rfl rfl)) (fun c => absurd rfl c))))
theorem m_local_m (x : Int32) (hk : k < 12) (hw : ga_wf (F k)) (hx : x < 0) : gx_call LL xs (d + 4) z_M_local 0 0 [.ref 43, .int (nI k), .int x] (gm_h pre n μ sp fo pc lp cl tk tc F gv) (fun r h => r = some (.int (-(nI 1))) ∧ h = (gm_h pre n μ sp fo pc lp cl tk tc F gv)) :=
  gs_M_local _ _ _ (gx_run 3 (gx_c1 (gx_le8 rfl) (m_isFunction_t hk) (And.intro (fun c => absurd c (by decide)) (fun _ => gx_run 11 (And.intro ⟨_, rfl⟩ (gx_c1 (gx_le8 rfl) (m_locals hk hw.2.2.1) (And.intro (gx_le8 rfl) (And.intro (fun c => absurd hx ((ga_i64b _ _).mp c).1) (fun c => And.intro (fun _ => gx_run 2 (And.intro rfl rfl)) (fun z => absurd rfl z))))))))))
theorem m_local {q : Nat} (hk : k < 12) (hw : ga_wf (F k)) (hq : q < 2147483648) : gx_call LL xs (d + 4) z_M_local 0 0 [.ref 43, .int (nI k), .int (nI q)] (gm_h pre n μ sp fo pc lp cl tk tc F gv) (fun r h => r = some (.int (ga_fp (ga_pl (F k).2.2.2.1 (F k).2.2.2.2 0 (F k).2.2.1 0 q))) ∧ h = (gm_h pre n μ sp fo pc lp cl tk tc F gv)) := by
  have hls := ga_ls_le hw
  refine gs_M_local _ _ _ (gx_run 3 (gx_c1 (gx_le8 rfl) (m_isFunction_t hk) (And.intro (fun c => absurd c (by decide)) (fun _ => gx_run 11 (And.intro ⟨_, rfl⟩ (gx_c1 (gx_le8 rfl) (m_locals hk hw.2.2.1) (And.intro (gx_le8 rfl) (And.intro (fun c => And.intro (fun z => absurd z (by decide)) (fun _ => ?_)) (fun c => And.intro (fun _ => gx_run 2 (And.intro ?_ rfl)) (fun z => absurd rfl z))))))))))
  · have h := (ga_i64b _ _).mp c
    have hq2 : q < ga_ls (F k) := by
      have h2 := h.2
      rw [Int32.lt_iff_toInt_lt, nI_toInt hq, pk_sub_toInt (by omega) (by omega)] at h2
      omega
    have hc := m_placeOf (LL := LL) (xs := xs) (d := d) (pre := pre) (n := n) (μ := μ) (sp := sp) (fo := fo) (pc := pc) (lp := lp) (cl := cl) (tk := tk) (tc := tc) (gv := gv) hk hw hq
    rw [ga_po_in hw hq2] at hc
    rw [(ga_pc_in hw hq2).1]
    refine gx_run 10 (And.intro ⟨_, rfl⟩ (gx_c1 (gx_le8 rfl) hc (And.intro ⟨_, rfl⟩ (gx_c1 (gx_le8 rfl) (m_begin hk hw.2.2.1) (And.intro ?_ rfl)))))
    rw [pk_sub (Nat.le_add_right _ _), Nat.add_sub_cancel_left]
    rfl
  · have hq2 : ga_ls (F k) ≤ q := by
      rcases Nat.lt_or_ge q (ga_ls (F k)) with z | z
      · refine absurd ((ga_i64b _ _).mpr ⟨nI_pos hq, ?_⟩) c
        rw [Int32.lt_iff_toInt_lt, nI_toInt hq, pk_sub_toInt (by omega) (by omega)]
        omega
      · exact z
    rw [ga_pl_none _ _ _ _ (by rw [Nat.zero_add]; exact Nat.le_trans hq2 (Nat.le_add_right _ _))]
    rfl
end GMB
