/-! A frame is entered. -/
def ga_wo (wd ct : Nat → Nat) (i : Nat) : Nat → Nat → Nat
  | 0, _ => 0
  | m + 1, left => if left < ct i then wd i else ga_wo wd ct (i + 1) m (left - ct i)
def ga_pc (f : ga_F) (k : Nat) : Nat := (ga_pl f.2.2.2.1 f.2.2.2.2 0 f.2.2.1 0 k).getD 0
def ga_wk (f : ga_F) (k : Nat) : Nat := ga_wo f.2.2.2.1 f.2.2.2.2 0 f.2.2.1 k
def ga_ls (f : ga_F) : Nat := ga_lc f.2.2.2.2 f.2.2.1
/-- locals become arguments, one by one; a: where locals begin -/
def ga_sl (f : ga_F) (A : Nat → Int32) (a : Nat) (μ : Nat → Nat) : Nat → (Nat → Nat)
  | 0 => μ
  | k + 1 => ga_wr (ga_sl f A a μ k) (a + ga_pc f k) (ga_wk f k) (A k)
theorem ga_sl_lt {f : ga_F} {A : Nat → Int32} {a : Nat} {μ : Nat → Nat} (h : ∀ i, μ i < 256) : ∀ k i, ga_sl f A a μ k i < 256
  | 0, i => h i
  | k + 1, i => ga_wr_lt (ga_sl_lt h k) i
theorem ga_sl_low {f : ga_F} {A : Nat → Int32} {a : Nat} {μ : Nat → Nat} : ∀ {k i : Nat}, i < a → ga_sl f A a μ k i = μ i
  | 0, _, _ => rfl
  | k + 1, i, h => by
    show ga_wr _ _ _ _ i = _
    rw [ga_wr_out (by omega)]
    exact ga_sl_low h
theorem ga_sl_cong {f : ga_F} {A B : Nat → Int32} {a : Nat} {μ : Nat → Nat} : ∀ {k : Nat}, (∀ j, j < k → A j = B j) → ga_sl f A a μ k = ga_sl f B a μ k
  | 0, _ => rfl
  | k + 1, h => by
    show ga_wr _ _ _ _ = ga_wr _ _ _ _
    rw [ga_sl_cong fun j hj => h j (by omega), h k (by omega)]
theorem ga_ws_cong {a : Nat} {V W : Nat → Int32} {μ : Nat → Nat} : ∀ {k : Nat}, (∀ j, j < k → V j = W j) → ga_ws a V μ k = ga_ws a W μ k
  | 0, _ => rfl
  | k + 1, h => by
    show ga_wr _ _ _ _ = ga_wr _ _ _ _
    rw [ga_ws_cong fun j hj => h j (by omega), h k (by omega)]
theorem ga_lc_mono {ct : Nat → Nat} {j p : Nat} (h : j ≤ p) : ga_lc ct j ≤ ga_lc ct p := by
  induction p with
  | zero => rw [show j = 0 by omega]; exact Nat.le_refl _
  | succ p ih =>
    by_cases e : j = p + 1
    · rw [e]; exact Nat.le_refl _
    · have := ih (by omega)
      show _ ≤ ga_lc ct p + ct p
      omega
theorem ga_wo_at {wd ct : Nat → Nat} {p i : Nat} (hi : i < ct p) : ∀ (m j : Nat), j ≤ p → p < j + m → ga_wo wd ct j m (ga_lc ct p + i - ga_lc ct j) = wd p
  | 0, j, h1, h2 => by omega
  | m + 1, j, h1, h2 => by
    unfold ga_wo
    by_cases e : j = p
    · subst e
      rw [if_pos (by omega)]
    · have h3 := ga_lc_mono (ct := ct) (show j + 1 ≤ p by omega)
      have h4 : ga_lc ct (j + 1) = ga_lc ct j + ct j := rfl
      rw [if_neg (by omega), show ga_lc ct p + i - ga_lc ct j - ct j = ga_lc ct p + i - ga_lc ct (j + 1) by omega]
      exact ga_wo_at hi m (j + 1) (by omega) (by omega)
theorem ga_pl_at {wd ct : Nat → Nat} : ∀ (m j at_ left : Nat), left < ga_lc ct (j + m) - ga_lc ct j → ∃ x, ga_pl wd ct j m at_ left = some x
  | 0, j, at_, left, h => by rw [Nat.add_zero] at h; omega
  | m + 1, j, at_, left, h => by
    unfold ga_pl
    by_cases c : left < ct j
    · rw [if_pos c]; exact ⟨_, rfl⟩
    · rw [if_neg c]
      have h4 : ga_lc ct (j + 1) = ga_lc ct j + ct j := rfl
      exact ga_pl_at m (j + 1) _ _ (by rw [show j + 1 + m = j + (m + 1) by omega]; omega)
theorem ga_pl_le {wd ct : Nat → Nat} : ∀ {m j at_ left x : Nat}, (∀ q, j ≤ q → q < j + m → (wd q = 1 ∨ wd q = 2 ∨ wd q = 4)) → ga_pl wd ct j m at_ left = some x → x + ga_wo wd ct j m left ≤ ga_fl wd ct j m at_
  | 0, _, _, _, _, _, h => by cases h
  | m + 1, j, at_, left, x, hw, h => by
    unfold ga_pl at h
    unfold ga_wo ga_fl
    by_cases c : left < ct j
    · rw [if_pos c] at h ⊢
      cases h
      have h1 := ga_fl_ge (wd := wd) (ct := ct) (m := m) (i := j + 1) (at_ := ga_up (wd j) at_ + ct j * wd j) (fun q a b => hw q (by omega) (by omega))
      have h2 : (left + 1) * wd j ≤ ct j * wd j := Nat.mul_le_mul_right _ c
      rw [Nat.succ_mul] at h2
      omega
    · rw [if_neg c] at h ⊢
      exact ga_pl_le (fun q a b => hw q (by omega) (by omega)) h
theorem ga_up_add {w B x : Nat} (hw : w = 1 ∨ w = 2 ∨ w = 4) (hB : B % 4 = 0) : ga_up w (B + x) = B + ga_up w x := by
  unfold ga_up
  rcases hw with rfl | rfl | rfl <;> omega
theorem ga_fl_add {wd ct : Nat → Nat} {B : Nat} (hB : B % 4 = 0) : ∀ {m j at_ : Nat}, (∀ q, j ≤ q → q < j + m → (wd q = 1 ∨ wd q = 2 ∨ wd q = 4)) → ga_fl wd ct j m (B + at_) = B + ga_fl wd ct j m at_
  | 0, _, _, _ => rfl
  | m + 1, j, at_, hw => by
    unfold ga_fl
    rw [ga_up_add (hw j (Nat.le_refl _) (by omega)) hB, Nat.add_assoc]
    exact ga_fl_add hB (fun q a b => hw q (by omega) (by omega))
theorem ga_lb4 (f : ga_F) : ga_lb f % 4 = 0 := by
  unfold ga_lb ga_up
  omega
/-- a local lies within the frame -/
theorem ga_pc_in {f : ga_F} (hw : ga_wf f) {k : Nat} (hk : k < ga_ls f) : ga_pl f.2.2.2.1 f.2.2.2.2 0 f.2.2.1 0 k = some (ga_pc f k) ∧ ga_lb f + ga_pc f k + ga_wk f k ≤ ga_len f := by
  have hww : ∀ q, 0 ≤ q → q < 0 + f.2.2.1 → (f.2.2.2.1 q = 1 ∨ f.2.2.2.1 q = 2 ∨ f.2.2.2.1 q = 4) := fun q _ h => (hw.2.2.2 q (by omega)).1
  obtain ⟨x, hx⟩ := ga_pl_at (wd := f.2.2.2.1) (ct := f.2.2.2.2) f.2.2.1 0 0 k (by rw [Nat.zero_add]; show k < ga_lc f.2.2.2.2 f.2.2.1 - 0; exact hk)
  have e : ga_pc f k = x := by unfold ga_pc; rw [hx]; rfl
  rw [e]
  refine ⟨hx, ?_⟩
  have h1 := ga_pl_le hww hx
  have h2 := ga_fl_add (wd := f.2.2.2.1) (ct := f.2.2.2.2) (B := ga_lb f) (ga_lb4 f) (m := f.2.2.1) (j := 0) (at_ := 0) hww
  have h3 := ga_up_ge (u := 4) (x := ga_fl f.2.2.2.1 f.2.2.2.2 0 f.2.2.1 (ga_lb f)) (by decide)
  unfold ga_len ga_wk
  rw [Nat.add_zero] at h2
  omega
theorem ga_wk_le {f : ga_F} (hw : ga_wf f) {k : Nat} : ga_wk f k ≤ 4 := by
  have h : ∀ (m j left : Nat), (∀ q, j ≤ q → q < j + m → (f.2.2.2.1 q = 1 ∨ f.2.2.2.1 q = 2 ∨ f.2.2.2.1 q = 4)) → ga_wo f.2.2.2.1 f.2.2.2.2 j m left ≤ 4 := by
    intro m
    induction m with
    | zero => intro j left _; exact Nat.zero_le _
    | succ m ih =>
      intro j left hq
      unfold ga_wo
      split
      · have := hq j (Nat.le_refl _) (by omega); omega
      · exact ih _ _ (fun q a b => hq q (by omega) (by omega))
  exact h _ _ _ fun q _ h => (hw.2.2.2 q (by omega)).1
/-- the pairs, from a on -/
def ga_pr (f : ga_F) (a : Nat) (μ : Nat → Nat) : Nat → (Nat → Nat)
  | 0 => μ
  | p + 1 => va_up (va_up (ga_pr f a μ p) (a + 2 * p) (f.2.2.2.1 p)) (a + 2 * p + 1) (f.2.2.2.2 p)
def ga_hd (f : ga_F) (μ : Nat → Nat) (sp : Nat) : Nat → Nat := ga_pr f (sp + 8) (ga_wr (ga_wr (ga_z μ sp (ga_len f)) sp 4 (nI (ga_len f))) (sp + 4) 4 (nI (ga_lb f))) f.2.2.1
/-- a frame at sp, with arguments A 0 .. A (m - 1) -/
def ga_en (f : ga_F) (A : Nat → Int32) (m : Nat) (μ : Nat → Nat) (sp : Nat) : Nat → Nat :=
  if f.1 = 192 then ga_wr (ga_ws (sp + ga_len f) (fun p => A (m - 1 - p)) (ga_hd f μ sp) m) (sp + ga_len f + 4 * m) 4 (nI m) else ga_sl f A (sp + ga_lb f) (ga_hd f μ sp) (min m (ga_ls f))
theorem ga_lo_nI {w : Nat} (h : w < 256) : ga_lo (nI w) = w := by
  unfold ga_lo
  rw [pk_tn (by omega)]
  omega
theorem ga_wr1 {μ : Nat → Nat} {a w : Nat} (h : w < 256) : ga_wr μ a 1 (nI w) = va_up μ a w := by
  show va_up μ (a + 0) (ga_lo (nI w)) = _
  rw [ga_lo_nI h]
  rfl
theorem ga_pr_lt {f : ga_F} {a : Nat} {μ : Nat → Nat} (hμ : ∀ i, μ i < 256) : ∀ p, (∀ i, i < p → f.2.2.2.1 i < 256 ∧ f.2.2.2.2 i < 256) → ∀ i, ga_pr f a μ p i < 256
  | 0, _ => hμ
  | p + 1, h => va_up_lt (va_up_lt (ga_pr_lt hμ p fun i hi => h i (by omega)) (h p (by omega)).1) (h p (by omega)).2
theorem ga_pr_out {f : ga_F} {a : Nat} {μ : Nat → Nat} : ∀ {p i : Nat}, (i < a ∨ a + 2 * p ≤ i) → ga_pr f a μ p i = μ i
  | 0, _, _ => rfl
  | p + 1, i, h => by
    show va_up (va_up _ _ _) _ _ i = _
    unfold va_up
    rw [if_neg (by omega), if_neg (by omega)]
    exact ga_pr_out (by omega)
theorem ga_wf8 {f : ga_F} (hw : ga_wf f) : ∀ i, i < f.2.2.1 → f.2.2.2.1 i < 256 ∧ f.2.2.2.2 i < 256 := fun i hi => by
  have := hw.2.2.2 i hi
  omega
theorem ga_hd_lt {f : ga_F} {μ : Nat → Nat} {sp : Nat} (hw : ga_wf f) (hμ : ∀ i, μ i < 256) : ∀ i, ga_hd f μ sp i < 256 := ga_pr_lt (ga_wr_lt (ga_wr_lt (ga_z_lt hμ))) _ (ga_wf8 hw)
theorem ga_lb_ge {f : ga_F} : 10 + 2 * f.2.2.1 ≤ ga_lb f := ga_up_ge (by decide)
theorem ga_len_ge {f : ga_F} (hw : ga_wf f) : ga_lb f ≤ ga_len f := by
  have h1 := ga_fl_ge (wd := f.2.2.2.1) (ct := f.2.2.2.2) (m := f.2.2.1) (i := 0) (at_ := ga_lb f) (fun q _ h => (hw.2.2.2 q (by omega)).1)
  have h3 := ga_up_ge (u := 4) (x := ga_fl f.2.2.2.1 f.2.2.2.2 0 f.2.2.1 (ga_lb f)) (by decide)
  unfold ga_len
  omega
/-- the header's two numbers -/
theorem ga_hd_w {f : ga_F} {μ : Nat → Nat} {sp : Nat} (hw : ga_wf f) : ga_w (ga_hd f μ sp) sp = ga_len f ∧ ga_w (ga_hd f μ sp) (sp + 4) = ga_lb f := by
  have h1 := ga_len_le hw
  have h2 := ga_lb_le hw.2.2.1
  have e : ∀ i, i < sp + 8 → ga_hd f μ sp i = ga_wr (ga_wr (ga_z μ sp (ga_len f)) sp 4 (nI (ga_len f))) (sp + 4) 4 (nI (ga_lb f)) i := fun i h => ga_pr_out (Or.inl h)
  constructor
  · refine ga_w_of ?_ (by omega)
    rw [ga_rd_cong (fun i a b => e i (by omega)), ga_rd_out (by omega), ga_rd_wr]
  · refine ga_w_of ?_ (by omega)
    rw [ga_rd_cong (fun i a b => e i (by omega)), ga_rd_wr]
section GCM
variable {LL : Nat} {xs : Nat → Int32} {d : Nat} {n : Nat} {μ : Nat → Nat} {sp : Nat} {fo : Option Nat} {pc lp : Int32} {cl : Nat → Int32} {tk : Nat → Nat} {tc : Nat} {F : Nat → ga_F} {tn : Nat → Int32} {tl : gx_H} {M : ga_M} {k : Nat}
theorem k_G_pushArguments_l {m : Nat} (hs : sp + 4 * m + 4 ≤ n) (hn : n ≤ 1024) : ∀ (q p : Nat), q + p = m →
    gx_E LL xs (gx_call LL xs (d + 3)) cd_G_pushArguments (fun r h => r = none ∧ h = (gc_h n (ga_wr (ga_ws sp (fun p => tn (m - 1 - p)) μ m) (sp + 4 * m) 4 (nI m)) (sp + 4 * m + 4) fo pc lp cl tk tc F tn tl)) 4 [some (.ref 0), some (.int (nI m)), some (.int (nI q - nI 1))] [] (gc_h n (ga_ws sp (fun p => tn (m - 1 - p)) μ p) (sp + 4 * p) fo pc lp cl tk tc F tn tl) 0 0 := by
  intro q
  induction q with
  | zero =>
    intro p hq
    obtain rfl : p = m := by omega
    exact gx_run 2 (And.intro (fun _ => gx_run 5 (And.intro ⟨_, rfl⟩ (gx_c1 (gx_le8 rfl) (k_R_append (show sp + 4 * p + 4 ≤ n by omega) (show n < 2147483648 by omega)) (And.intro rfl rfl)))) (fun c => absurd (by decide) c))
  | succ q ih =>
    intro p hq
    have e1 : nI (q + 1) - nI 1 = nI q := pk_sub (Nat.le_add_left 1 q)
    rw [e1]
    have h9 := ih (p + 1) (by omega)
    rw [show sp + 4 * (p + 1) = sp + 4 * p + 4 by omega] at h9
    have hv := k_G_takenValue (LL := LL) (xs := xs) (d := d + 2) (n := n) (μ := ga_ws sp (fun p => tn (m - 1 - p)) μ p) (sp := sp + 4 * p) (fo := fo) (pc := pc) (lp := lp) (cl := cl) (tk := tk) (tc := tc) (F := F) (tn := tn) (tl := tl) (i := q) (by omega) (by omega)
    rw [show tn q = tn (m - 1 - p) by congr 1; omega] at hv
    exact gx_run 2 (And.intro (fun c => absurd c (nI_pos (by omega))) (fun _ => gx_run 8 (And.intro ⟨_, rfl⟩ (gx_c1 (gx_le8 rfl) hv (And.intro ⟨_, rfl⟩ (gx_c1 (gx_le8 rfl) (k_R_append (show sp + 4 * p + 4 ≤ n by omega) (show n < 2147483648 by omega)) h9))))))
theorem k_G_pushArguments {m : Nat} (hs : sp + 4 * m + 4 ≤ n) (hn : n ≤ 1024) : gx_call LL xs (d + 4) z_G_pushArguments 0 0 [.ref 0, .int (nI m)] (gc_h n μ sp fo pc lp cl tk tc F tn tl) (fun r h => r = none ∧ h = (gc_h n (ga_wr (ga_ws sp (fun p => tn (m - 1 - p)) μ m) (sp + 4 * m) 4 (nI m)) (sp + 4 * m + 4) fo pc lp cl tk tc F tn tl)) :=
  gs_G_pushArguments _ _ (gx_run 4 (k_G_pushArguments_l hs hn m 0 (by omega)))
theorem k_G_setLocals_i {f m p : Nat} (hk : k < 12) (hw : ga_wf (F k)) (hp : p < (F k).2.2.1) (hfl : f + ga_len (F k) ≤ n) (hlb : ga_w μ (f + 4) = ga_lb (F k)) (hn : n ≤ 1024) (hμ : ∀ i, μ i < 256) (hm : 4 * m ≤ n) {Q : gx_Q}
    (hO : ∀ (w5 w6 : Option Value), gx_E LL xs (gx_call LL xs (d + 3)) cd_G_setLocals Q 4 [some (.ref 0), some (.ref (5 + 3 * k)), some (.int (nI m)), some (.int (nI (min m (ga_lc (F k).2.2.2.2 (p + 1))))), some (.int (nI (p + 1))), w5, w6] [] (gc_h n (ga_sl (F k) tn (f + ga_lb (F k)) μ (min m (ga_lc (F k).2.2.2.2 (p + 1)))) sp (some f) pc lp cl tk tc F tn tl) 0 0) :
    ∀ (q i : Nat) (w6 : Option Value), i + q = (F k).2.2.2.2 p →
    gx_E LL xs (gx_call LL xs (d + 3)) cd_G_setLocals Q 10 [some (.ref 0), some (.ref (5 + 3 * k)), some (.int (nI m)), some (.int (nI (min m (ga_lc (F k).2.2.2.2 p + i)))), some (.int (nI p)), some (.int (nI i)), w6] [] (gc_h n (ga_sl (F k) tn (f + ga_lb (F k)) μ (min m (ga_lc (F k).2.2.2.2 p + i))) sp (some f) pc lp cl tk tc F tn tl) 0 0 := by
  have hpw := hw.2.2.2 p hp
  have h6 := hw.2.2.1
  have hlc : ga_lc (F k).2.2.2.2 (p + 1) = ga_lc (F k).2.2.2.2 p + (F k).2.2.2.2 p := rfl
  intro q
  induction q with
  | zero =>
    intro i w6 hq
    have h9 := hO (some (.int (nI i))) w6
    rw [hlc, show (F k).2.2.2.2 p = i by omega, ← nI_add p 1] at h9
    refine gx_run 5 (And.intro ⟨_, gc_at_o hk⟩ (gx_c1 (gx_le8 rfl) (k_F_countOfPair hk (show p < 6 by omega)) (And.intro (fun _ => gx_run 2 h9) (fun c => absurd (nI_le (show (F k).2.2.2.2 p ≤ i by omega) (by omega)) c))))
  | succ q ih =>
    intro i w6 hq
    refine gx_run 5 (And.intro ⟨_, gc_at_o hk⟩ (gx_c1 (gx_le8 rfl) (k_F_countOfPair hk (show p < 6 by omega)) (And.intro (fun c => absurd c (nI_ge (show i < (F k).2.2.2.2 p by omega) (by omega))) (fun _ => ?_))))
    rcases Nat.lt_or_ge (ga_lc (F k).2.2.2.2 p + i) m with hlt | hge
    · rw [Nat.min_eq_right (by omega)]
      have hks : ga_lc (F k).2.2.2.2 p + i < ga_ls (F k) := by
        have := ga_lc_mono (ct := (F k).2.2.2.2) (show p + 1 ≤ (F k).2.2.1 by omega)
        unfold ga_ls
        omega
      obtain ⟨hpl, hin⟩ := ga_pc_in hw hks
      have hwk : ga_wk (F k) (ga_lc (F k).2.2.2.2 p + i) = (F k).2.2.2.1 p := ga_wo_at (show i < (F k).2.2.2.2 p by omega) (F k).2.2.1 0 (Nat.zero_le _) (by omega)
      have hlb2 : ga_w (ga_sl (F k) tn (f + ga_lb (F k)) μ (ga_lc (F k).2.2.2.2 p + i)) (f + 4) = ga_lb (F k) := by
        rw [← hlb]
        have := ga_lb_ge (f := F k)
        exact ga_w_cong fun j a b => ga_sl_low (by omega)
      have c1 := k_G_localsAt (LL := LL) (xs := xs) (d := d) (n := n) (μ := ga_sl (F k) tn (f + ga_lb (F k)) μ (ga_lc (F k).2.2.2.2 p + i)) (sp := sp) (fo := some f) (pc := pc) (lp := lp) (cl := cl) (tk := tk) (tc := tc) (F := F) (tn := tn) (tl := tl) (f := f) (by have := ga_lb_ge (f := F k); have := ga_len_ge hw; omega) (by omega) (ga_sl_lt hμ _)
      rw [hlb2] at c1
      have c2 := k_F_placeOfLocal (LL := LL) (xs := xs) (d := d + 1) (n := n) (μ := ga_sl (F k) tn (f + ga_lb (F k)) μ (ga_lc (F k).2.2.2.2 p + i)) (sp := sp) (fo := some f) (pc := pc) (lp := lp) (cl := cl) (tk := tk) (tc := tc) (F := F) (tn := tn) (tl := tl) hk hw (q := ga_lc (F k).2.2.2.2 p + i) (by omega)
      rw [hpl] at c2
      have c3 := k_F_widthOfPair (LL := LL) (xs := xs) (d := d + 2) (n := n) (μ := ga_sl (F k) tn (f + ga_lb (F k)) μ (ga_lc (F k).2.2.2.2 p + i)) (sp := sp) (fo := some f) (pc := pc) (lp := lp) (cl := cl) (tk := tk) (tc := tc) (F := F) (tn := tn) (tl := tl) hk (j := p) (by omega)
      have c4 := k_G_takenValue (LL := LL) (xs := xs) (d := d + 2) (n := n) (μ := ga_sl (F k) tn (f + ga_lb (F k)) μ (ga_lc (F k).2.2.2.2 p + i)) (sp := sp) (fo := some f) (pc := pc) (lp := lp) (cl := cl) (tk := tk) (tc := tc) (F := F) (tn := tn) (tl := tl) (i := ga_lc (F k).2.2.2.2 p + i) (by omega) (by omega)
      have c5 : gx_call LL xs (d + 3) z_R_set 0 0 [.ref 3, .int (nI (f + ga_lb (F k)) + nI (ga_pc (F k) (ga_lc (F k).2.2.2.2 p + i))), .int (nI ((F k).2.2.2.1 p)), .int (tn (ga_lc (F k).2.2.2.2 p + i))] (gc_h n (ga_sl (F k) tn (f + ga_lb (F k)) μ (ga_lc (F k).2.2.2.2 p + i)) sp (some f) pc lp cl tk tc F tn tl) (fun r h => r = none ∧ h = (gc_h n (ga_sl (F k) tn (f + ga_lb (F k)) μ (ga_lc (F k).2.2.2.2 p + (i + 1))) sp (some f) pc lp cl tk tc F tn tl)) := by
        rw [nI_add, ← Nat.add_assoc]
        have := k_R_set (LL := LL) (xs := xs) (d := d + 1) (n := n) (μ := ga_sl (F k) tn (f + ga_lb (F k)) μ (ga_lc (F k).2.2.2.2 p + i)) (sp := sp) (fo := some f) (pc := pc) (lp := lp) (cl := cl) (tk := tk) (tc := tc) (F := F) (tn := tn) (tl := tl) (a := f + ga_lb (F k) + ga_pc (F k) (ga_lc (F k).2.2.2.2 p + i)) (w := (F k).2.2.2.1 p) (v := tn (ga_lc (F k).2.2.2.2 p + i)) (by omega) (by omega)
        rw [← hwk] at this ⊢
        exact this
      have h9 := ih (i + 1) (some (.int (nI (f + ga_lb (F k)) + nI (ga_pc (F k) (ga_lc (F k).2.2.2.2 p + i))))) (by omega)
      rw [Nat.min_eq_right (show ga_lc (F k).2.2.2.2 p + (i + 1) ≤ m by omega)] at h9
      have h8 := h9
      rw [show nI (ga_lc (F k).2.2.2.2 p + (i + 1)) = nI (ga_lc (F k).2.2.2.2 p + i) + nI 1 by rw [nI_add, Nat.add_assoc], ← nI_add i 1] at h8
      refine gx_run 3 (And.intro (fun c => absurd c (nI_ge hlt (by omega))) (fun _ => ?_))
      refine gx_run 22 (And.intro ⟨_, rfl⟩ (gx_c1 (gx_le8 rfl) c1 (And.intro ⟨_, gc_at_o hk⟩ (gx_c1 (gx_le8 rfl) c2 ?_))))
      exact And.intro ⟨_, gc_at_o hk⟩ (gx_c1 (gx_le8 rfl) c3 (And.intro ⟨_, rfl⟩ (gx_c1 (gx_le8 rfl) c4 (And.intro ⟨_, rfl⟩ (gx_c1 (gx_le8 rfl) c5 h8)))))
    · rw [Nat.min_eq_left hge]
      have h9 := hO (some (.int (nI i))) w6
      rw [Nat.min_eq_left (show m ≤ ga_lc (F k).2.2.2.2 (p + 1) by omega), ← nI_add p 1] at h9
      exact gx_run 3 (And.intro (fun _ => gx_run 2 h9) (fun c => absurd (nI_le (Nat.le_refl m) (by omega)) c))
theorem k_G_setLocals_o {f m : Nat} (hk : k < 12) (hw : ga_wf (F k)) (hfl : f + ga_len (F k) ≤ n) (hlb : ga_w μ (f + 4) = ga_lb (F k)) (hn : n ≤ 1024) (hμ : ∀ i, μ i < 256) (hm : 4 * m ≤ n) :
    ∀ (q p : Nat) (w5 w6 : Option Value), p + q = (F k).2.2.1 → gx_E LL xs (gx_call LL xs (d + 3)) cd_G_setLocals (fun r h => r = none ∧ h = (gc_h n (ga_sl (F k) tn (f + ga_lb (F k)) μ (min m (ga_ls (F k)))) sp (some f) pc lp cl tk tc F tn tl)) 4 [some (.ref 0), some (.ref (5 + 3 * k)), some (.int (nI m)), some (.int (nI (min m (ga_lc (F k).2.2.2.2 p)))), some (.int (nI p)), w5, w6] [] (gc_h n (ga_sl (F k) tn (f + ga_lb (F k)) μ (min m (ga_lc (F k).2.2.2.2 p))) sp (some f) pc lp cl tk tc F tn tl) 0 0 := by
  have h6 := hw.2.2.1
  intro q
  induction q with
  | zero =>
    intro p w5 w6 hq
    refine gx_run 2 (gx_getf rfl (gc_at_o hk) rfl (gx_run 1 (And.intro (fun _ => gx_run 1 (And.intro rfl ?_)) (fun c => absurd (nI_le (show (F k).2.2.1 ≤ p by omega) (by omega)) c))))
    rw [show p = (F k).2.2.1 by omega]
    rfl
  | succ q ih =>
    intro p w5 w6 hq
    refine gx_run 2 (gx_getf rfl (gc_at_o hk) rfl (gx_run 1 (And.intro (fun c => absurd c (nI_ge (show p < (F k).2.2.1 by omega) (by omega))) (fun _ => gx_run 2 ?_))))
    exact k_G_setLocals_i hk hw (show p < (F k).2.2.1 by omega) hfl hlb hn hμ hm (fun w5 w6 => ih (p + 1) w5 w6 (by omega)) _ 0 w6 (Nat.zero_add _)
theorem k_G_setLocals {f m : Nat} (hk : k < 12) (hw : ga_wf (F k)) (hfl : f + ga_len (F k) ≤ n) (hlb : ga_w μ (f + 4) = ga_lb (F k)) (hn : n ≤ 1024) (hμ : ∀ i, μ i < 256) (hm : 4 * m ≤ n) : gx_call LL xs (d + 4) z_G_setLocals 0 0 [.ref 0, .ref (5 + 3 * k), .int (nI m)] (gc_h n μ sp (some f) pc lp cl tk tc F tn tl) (fun r h => r = none ∧ h = (gc_h n (ga_sl (F k) tn (f + ga_lb (F k)) μ (min m (ga_ls (F k)))) sp (some f) pc lp cl tk tc F tn tl)) := by
  have h9 := k_G_setLocals_o (LL := LL) (xs := xs) (d := d) (n := n) (μ := μ) (sp := sp) (pc := pc) (lp := lp) (cl := cl) (tk := tk) (tc := tc) (F := F) (tn := tn) (tl := tl) hk hw hfl hlb hn hμ hm (F k).2.2.1 0 none none (Nat.zero_add _)
  rw [show min m (ga_lc (F k).2.2.2.2 0) = 0 from Nat.min_eq_right (Nat.zero_le m)] at h9
  exact gs_G_setLocals _ _ _ (gx_run 4 h9)
end GCM
