/-! Calls and tail calls. -/
section GCN
variable {LL : Nat} {xs : Nat → Int32} {d : Nat} {n : Nat} {μ : Nat → Nat} {sp : Nat} {fo : Option Nat} {pc lp : Int32} {cl : Nat → Int32} {tk : Nat → Nat} {tc : Nat} {F : Nat → ga_F} {tn : Nat → Int32} {tl : gx_H} {M : ga_M} {k : Nat}
theorem k_G_pushFrame_l {f m : Nat} {Q : gx_Q} (hk : k < 12) (hw : ga_wf (F k)) (hfl : f + ga_len (F k) ≤ n) (hn : n ≤ 1024) (hO : gx_E LL xs (gx_call LL xs (d + 4)) cd_G_pushFrame Q 68 [some (.ref 0), some (.ref (5 + 3 * k)), some (.int (nI m)), some (.int (nI (F k).2.2.1))] [] (gc_h n (ga_pr (F k) (f + 8) μ (F k).2.2.1) sp (some f) pc lp cl tk tc F tn tl) 0 0) :
    ∀ (q p : Nat), p + q = (F k).2.2.1 → gx_E LL xs (gx_call LL xs (d + 4)) cd_G_pushFrame Q 30 [some (.ref 0), some (.ref (5 + 3 * k)), some (.int (nI m)), some (.int (nI p))] [] (gc_h n (ga_pr (F k) (f + 8) μ p) sp (some f) pc lp cl tk tc F tn tl) 0 0 := by
  have h6 := hw.2.2.1
  have hlb := ga_lb_ge (f := F k)
  have hle := ga_len_ge hw
  intro q
  induction q with
  | zero =>
    intro p hq
    obtain rfl : p = (F k).2.2.1 := by omega
    exact gx_run 2 (gx_getf rfl (gc_at_o hk) rfl (gx_run 1 (And.intro (fun _ => hO) (fun c => absurd (nI_le (Nat.le_refl _) (by omega)) c))))
  | succ q ih =>
    intro p hq
    have h8 := ga_wf8 hw p (by omega)
    have h9 := ih (p + 1) (by omega)
    rw [← nI_add p 1] at h9
    have c1 : gx_call LL xs (d + 4) z_R_set 0 0 [.ref 3, .int (nI f + nI 8 + nI 2 * nI p), .int (nI 1), .int (nI ((F k).2.2.2.1 p))] (gc_h n (ga_pr (F k) (f + 8) μ p) sp (some f) pc lp cl tk tc F tn tl) (fun r h => r = none ∧ h = (gc_h n (va_up (ga_pr (F k) (f + 8) μ p) (f + 8 + 2 * p) ((F k).2.2.2.1 p)) sp (some f) pc lp cl tk tc F tn tl)) := by
      rw [nI_add, pk_mul, nI_add, ← ga_wr1 h8.1]
      exact k_R_set (by omega) (by omega)
    have c2 : gx_call LL xs (d + 4) z_R_set 0 0 [.ref 3, .int (nI f + nI 8 + nI 2 * nI p + nI 1), .int (nI 1), .int (nI ((F k).2.2.2.2 p))] (gc_h n (va_up (ga_pr (F k) (f + 8) μ p) (f + 8 + 2 * p) ((F k).2.2.2.1 p)) sp (some f) pc lp cl tk tc F tn tl) (fun r h => r = none ∧ h = (gc_h n (ga_pr (F k) (f + 8) μ (p + 1)) sp (some f) pc lp cl tk tc F tn tl)) := by
      rw [nI_add, pk_mul, nI_add, nI_add]
      show gx_call LL xs (d + 4) z_R_set 0 0 _ _ (fun r h => r = none ∧ h = (gc_h n (va_up (va_up (ga_pr (F k) (f + 8) μ p) (f + 8 + 2 * p) ((F k).2.2.2.1 p)) (f + 8 + 2 * p + 1) ((F k).2.2.2.2 p)) sp (some f) pc lp cl tk tc F tn tl))
      rw [← ga_wr1 h8.2]
      exact k_R_set (by omega) (by omega)
    refine gx_run 2 (gx_getf rfl (gc_at_o hk) rfl (gx_run 1 (And.intro (fun c => absurd c (nI_ge (show p < (F k).2.2.1 by omega) (by omega))) (fun _ => gx_run 34 ?_))))
    refine And.intro ⟨_, gc_at_o hk⟩ (gx_c1 (gx_le8 rfl) (k_F_widthOfPair hk (show p < 6 by omega)) (And.intro ⟨_, rfl⟩ (gx_c1 (gx_le8 rfl) c1 ?_)))
    exact And.intro ⟨_, gc_at_o hk⟩ (gx_c1 (gx_le8 rfl) (k_F_countOfPair hk (show p < 6 by omega)) (And.intro ⟨_, rfl⟩ (gx_c1 (gx_le8 rfl) c2 h9)))
theorem k_G_pushFrame {m : Nat} (hk : k < 12) (hw : ga_wf (F k)) (hh : (F k).1 = 192 ∨ (F k).1 = 193) (hfl : sp + ga_room (F k) m ≤ n) (hn : n ≤ 1024) (hμ : ∀ i, μ i < 256) (hm : 4 * m ≤ n) :
    gx_call LL xs (d + 5) z_G_pushFrame 0 0 [.ref 0, .ref (5 + 3 * k), .int (nI m)] (gc_h n μ sp fo pc lp cl tk tc F tn tl) (fun r h => r = none ∧ h = (gc_h n (ga_en (F k) tn m μ sp) (sp + ga_room (F k) m) (some sp) pc lp cl tk tc F tn tl)) := by
  have hrm : ga_len (F k) ≤ ga_room (F k) m := Nat.le_add_right _ _
  have hlb := ga_lb_ge (f := F k)
  have hle := ga_len_ge hw
  have c3 : gx_call LL xs (d + 4) z_R_set 0 0 [.ref 3, .int (nI sp + nI 4), .int (nI 4), .int (nI (ga_lb (F k)))] (gc_h n (ga_wr (ga_z μ sp (ga_len (F k))) sp 4 (nI (ga_len (F k)))) (sp + ga_len (F k)) (some sp) pc lp cl tk tc F tn tl) (fun r h => r = none ∧ h = (gc_h n (ga_wr (ga_wr (ga_z μ sp (ga_len (F k))) sp 4 (nI (ga_len (F k)))) (sp + 4) 4 (nI (ga_lb (F k)))) (sp + ga_len (F k)) (some sp) pc lp cl tk tc F tn tl)) := by
    rw [nI_add]
    exact k_R_set (by omega) (by omega)
  refine gs_G_pushFrame _ _ _ (gx_run 30 (And.intro ⟨_, rfl⟩ (gx_c1 (gx_le8 rfl) k_R_end (And.intro ⟨_, gc_at_o (fo := some sp) hk⟩ (gx_c1 (gx_le8 rfl) (k_F_frameLength (fo := some sp) hk hw) ?_)))))
  refine And.intro ⟨_, rfl⟩ (gx_c1 (gx_le8 rfl) (k_R_appendZeros (fo := some sp) (show sp + ga_len (F k) ≤ n by omega) (by omega)) ?_)
  refine And.intro ⟨_, gc_at_o hk⟩ (gx_c1 (gx_le8 rfl) (k_F_frameLength hk hw) (And.intro ⟨_, rfl⟩ (gx_c1 (gx_le8 rfl) (k_R_set (show sp + 4 ≤ n by omega) (by omega)) ?_)))
  refine And.intro ⟨_, gc_at_o hk⟩ (gx_c1 (gx_le8 rfl) (k_F_localsBegin hk hw.2.2.1) (And.intro ⟨_, rfl⟩ (gx_c1 (gx_le8 rfl) c3 ?_)))
  refine k_G_pushFrame_l (f := sp) (m := m) hk hw (by omega) hn ?_ (F k).2.2.1 0 (Nat.zero_add _)
  refine gx_run 3 (And.intro ⟨_, gc_at_o hk⟩ (gx_c1 (gx_le8 rfl) (k_F_takesPushed hk hw.1) ?_))
  by_cases h : (F k).1 = 192
  · rw [if_pos h]
    have hr : ga_room (F k) m = ga_len (F k) + 4 * (m + 1) := by unfold ga_room; rw [if_pos h]
    have c4 := k_G_pushArguments (LL := LL) (xs := xs) (d := d) (n := n) (μ := ga_hd (F k) μ sp) (sp := sp + ga_len (F k)) (fo := some sp) (pc := pc) (lp := lp) (cl := cl) (tk := tk) (tc := tc) (F := F) (tn := tn) (tl := tl) (m := m) (by omega) hn
    have e : ga_en (F k) tn m μ sp = ga_wr (ga_ws (sp + ga_len (F k)) (fun p => tn (m - 1 - p)) (ga_hd (F k) μ sp) m) (sp + ga_len (F k) + 4 * m) 4 (nI m) := if_pos h
    rw [e, hr, show sp + (ga_len (F k) + 4 * (m + 1)) = sp + ga_len (F k) + 4 * m + 4 by omega]
    exact And.intro (fun c => absurd c (by decide)) (fun _ => gx_run 5 (And.intro ⟨_, rfl⟩ (gx_c1 (gx_le8 rfl) c4 (And.intro rfl rfl))))
  · rw [if_neg h]
    have hr : ga_room (F k) m = ga_len (F k) := by unfold ga_room; rw [if_neg h]; rfl
    have c4 := k_G_setLocals (LL := LL) (xs := xs) (d := d) (n := n) (μ := ga_hd (F k) μ sp) (sp := sp + ga_len (F k)) (pc := pc) (lp := lp) (cl := cl) (tk := tk) (tc := tc) (F := F) (tn := tn) (tl := tl) (f := sp) (m := m) hk hw (by omega) (ga_hd_w hw).2 hn (ga_hd_lt hw hμ) hm
    have e : ga_en (F k) tn m μ sp = ga_sl (F k) tn (sp + ga_lb (F k)) (ga_hd (F k) μ sp) (min m (ga_ls (F k))) := if_neg h
    rw [e, hr]
    exact And.intro (fun _ => gx_run 5 (And.intro ⟨_, rfl⟩ (gx_c1 (gx_le8 rfl) c4 (And.intro rfl rfl)))) (fun c => absurd rfl c)
/-- the values from the last on -/
def ga_va (μ : Nat → Nat) (sp : Nat) : Nat → Int32 := fun i => ga_rd μ (sp - 4 * (i + 1)) 4
theorem k_G_givenBy_l {acc m : Nat} (hm : 4 * m ≤ sp) (hs : sp ≤ n) (hn : n ≤ 1024) (hμ : ∀ i, μ i < 256) (ha : acc = 1 ∨ acc = 2 ∨ acc = 3) : ∀ (q i : Nat) (w5 : Option Value), i + q = m →
    gx_E LL xs (gx_call LL xs (d + 3)) cd_G_givenBy (fun r h => r = some (.int (ga_gb acc (ga_va μ sp) m)) ∧ h = (gc_h n μ sp fo pc lp cl tk tc F tn tl)) 4 [some (.ref 0), some (.int (nI acc)), some (.int (nI m)), some (.int (ga_gb acc (ga_va μ sp) i)), some (.int (nI i)), w5] [] (gc_h n μ sp fo pc lp cl tk tc F tn tl) 0 0 := by
  intro q
  induction q with
  | zero =>
    intro i w5 hq
    obtain rfl : i = m := by omega
    exact gx_run 3 (And.intro (fun _ => gx_run 2 (And.intro rfl rfl)) (fun c => absurd (nI_le (Nat.le_refl i) (by omega)) c))
  | succ q ih =>
    intro i w5 hq
    have h9 := ih (i + 1) (some (.int (ga_va μ sp i))) (by omega)
    rw [← nI_add i 1] at h9
    refine gx_run 3 (And.intro (fun c => absurd c (nI_ge (show i < m by omega) (by omega))) (fun _ => gx_run 6 (And.intro ⟨_, rfl⟩ (gx_c1 (gx_le8 rfl) (k_G_valueFromLast (j := i) (by omega) hs (by omega) hμ) ?_))))
    refine And.intro (fun c => ?_) (And.intro (fun c => ?_) (And.intro (fun c => ?_) trivial))
    · obtain rfl : acc = 3 := by
        have c0 : ¬ nI acc = nI 1 := c 0 (by decide)
        have c1 : ¬ nI acc = nI 2 := c 1 (by decide)
        rcases ha with rfl | rfl | rfl
        · exact absurd rfl c0
        · exact absurd rfl c1
        · rfl
      have e : ga_gb 3 (ga_va μ sp) (i + 1) = ga_gb 3 (ga_va μ sp) i + (if 0 < ga_va μ sp i then nI 1 else nI 0) := rfl
      rw [e] at h9
      refine gx_run 3 (And.intro (fun c => ?_) (fun c => ?_))
      · have c' : ¬ 0 < ga_va μ sp i := Int32.not_lt.mpr c
        rw [if_neg c'] at h9
        exact gx_run 5 h9
      · have c' : 0 < ga_va μ sp i := Int32.not_le.mp c
        rw [if_pos c'] at h9
        exact gx_run 6 h9
    · obtain rfl : acc = 1 := (nI_eq (by omega) (by decide)).mp (show nI acc = nI 1 from c)
      exact gx_run 7 h9
    · obtain rfl : acc = 2 := (nI_eq (by omega) (by decide)).mp (show nI acc = nI 2 from c)
      have e : ga_gb 2 (ga_va μ sp) (i + 1) = if i = 0 then ga_va μ sp i else ga_gb 2 (ga_va μ sp) i - ga_va μ sp i := rfl
      rw [e] at h9
      by_cases hi : i = 0
      · rw [if_pos hi] at h9
        exact gx_run 2 (And.intro (fun c => absurd (by rw [hi]; rfl) c) (fun _ => gx_run 6 h9))
      · rw [if_neg hi] at h9
        exact gx_run 2 (And.intro (fun _ => gx_run 7 h9) (fun c => absurd c (nI_ne0 (by omega) (by omega))))
theorem k_G_givenBy {acc m : Nat} (hm : 4 * m ≤ sp) (hs : sp ≤ n) (hn : n ≤ 1024) (hμ : ∀ i, μ i < 256) (ha : acc = 1 ∨ acc = 2 ∨ acc = 3) : gx_call LL xs (d + 4) z_G_givenBy 0 0 [.ref 0, .int (nI acc), .int (nI m)] (gc_h n μ sp fo pc lp cl tk tc F tn tl) (fun r h => r = some (.int (ga_gb acc (ga_va μ sp) m)) ∧ h = (gc_h n μ sp fo pc lp cl tk tc F tn tl)) :=
  gs_G_givenBy _ _ _ (gx_run 4 (k_G_givenBy_l hm hs hn hμ ha m 0 none (Nat.zero_add m)))
theorem k_reaches_t {q : Nat} (hq : q ≤ n) (hn : n ≤ 1024) : gx_call LL xs (d + 1) z_R_reaches 0 0 [.ref 3, .int (nI q)] (gc_h n μ sp fo pc lp cl tk tc F tn tl) (fun r h => r = some (.int (nI 1)) ∧ h = (gc_h n μ sp fo pc lp cl tk tc F tn tl)) := by
  have := k_R_reaches (LL := LL) (xs := xs) (d := d) (n := n) (μ := μ) (sp := sp) (fo := fo) (pc := pc) (lp := lp) (cl := cl) (tk := tk) (tc := tc) (F := F) (tn := tn) (tl := tl) (nI q)
  rw [if_neg (nI_nlt hq (by omega))] at this
  exact this
theorem k_reaches_f {q : Nat} (hq : n < q) (hn : q < 2147483648) : gx_call LL xs (d + 1) z_R_reaches 0 0 [.ref 3, .int (nI q)] (gc_h n μ sp fo pc lp cl tk tc F tn tl) (fun r h => r = some (.int (nI 0)) ∧ h = (gc_h n μ sp fo pc lp cl tk tc F tn tl)) := by
  have := k_R_reaches (LL := LL) (xs := xs) (d := d) (n := n) (μ := μ) (sp := sp) (fo := fo) (pc := pc) (lp := lp) (cl := cl) (tk := tk) (tc := tc) (F := F) (tn := tn) (tl := tl) (nI q)
  rw [if_pos (nI_lt hq hn)] at this
  exact this
theorem k_G_callAcc_w {m : Nat} (way addr : Int32) (hn : n ≤ 1024) (hμ : ∀ i, μ i < 256) (hf : ∀ f, fo = some f → f + 8 ≤ n ∧ ga_w μ (f + 4) ≤ ga_w μ f) (hcg : ga_cg μ way addr fo = false) {o : Nat} : gx_call LL xs (d + 6) z_G_callAccelerated 0 0 [.ref 0, .ref o, .int (nI m), .int way, .int addr] (gc_h n μ sp fo pc lp cl tk tc F tn tl) (fun r h => r = some (.int (-(nI 13))) ∧ h = (gc_h n μ sp fo pc lp cl tk tc F tn tl)) := by
  have c4 := k_G_canGo (LL := LL) (xs := xs) (d := d) (n := n) (μ := μ) (sp := sp) (fo := fo) (pc := pc) (lp := lp) (cl := cl) (tk := tk) (tc := tc) (F := F) (tn := tn) (tl := tl) way addr (fp2 := fo) (by omega) hμ hf
  rw [hcg] at c4
  exact gs_G_callAccelerated _ _ _ _ _ (gx_run 7 (And.intro ⟨_, rfl⟩ (gx_c1 (gx_le8 rfl) c4 (And.intro (fun c => absurd rfl c) (fun _ => gx_run 2 (And.intro rfl rfl))))))
theorem k_G_callAcc_f {m : Nat} (addr : Int32) (hn : n ≤ 1024) (hs : sp ≤ n) (hμ : ∀ i, μ i < 256) (hf : ∀ f, fo = some f → f + 8 ≤ n ∧ ga_w μ (f + 4) ≤ ga_w μ f) (hcg : ga_cg μ (nI 3) addr fo = true) (hm : 4 * m ≤ sp) (hfull : n < sp - 4 * m + 4) {o : Nat} : gx_call LL xs (d + 6) z_G_callAccelerated 0 0 [.ref 0, .ref o, .int (nI m), .int (nI 3), .int addr] (gc_h n μ sp fo pc lp cl tk tc F tn tl) (fun r h => r = some (.int (-(nI 15))) ∧ h = (gc_h n μ sp fo pc lp cl tk tc F tn tl)) := by
  have c4 := k_G_canGo (LL := LL) (xs := xs) (d := d) (n := n) (μ := μ) (sp := sp) (fo := fo) (pc := pc) (lp := lp) (cl := cl) (tk := tk) (tc := tc) (F := F) (tn := tn) (tl := tl) (nI 3) addr (fp2 := fo) (by omega) hμ hf
  rw [hcg] at c4
  have c5 := k_reaches_f (LL := LL) (xs := xs) (d := d + 4) (n := n) (μ := μ) (sp := sp) (fo := fo) (pc := pc) (lp := lp) (cl := cl) (tk := tk) (tc := tc) (F := F) (tn := tn) (tl := tl) hfull (by omega)
  rw [← nI_add, ← pk_sub hm, ← pk_mul] at c5
  refine gs_G_callAccelerated _ _ _ _ _ (gx_run 7 (And.intro ⟨_, rfl⟩ (gx_c1 (gx_le8 rfl) c4 (And.intro (fun _ => ?_) (fun c => absurd c (by decide))))))
  refine gx_run 11 (And.intro ⟨_, rfl⟩ (gx_c1 (gx_le8 rfl) k_R_end (And.intro (fun c => absurd rfl c) (fun _ => ?_))))
  exact gx_run 7 (And.intro ⟨_, rfl⟩ (gx_c1 (gx_le8 rfl) c5 (And.intro (fun c => absurd rfl c) (fun _ => gx_run 2 (And.intro rfl rfl)))))
theorem k_G_callAcc {m : Nat} (way addr : Int32) (hk : k < 12) (ha : (F k).2.1 = 1 ∨ (F k).2.1 = 2 ∨ (F k).2.1 = 3) (hn : n ≤ 1024) (hs : sp ≤ n) (hμ : ∀ i, μ i < 256) (hf : ∀ f, fo = some f → f + 8 ≤ n ∧ ga_w μ (f + 4) ≤ ga_w μ f ∧ f + ga_w μ f ≤ n) (hcg : ga_cg μ way addr fo = true) (hm : 4 * m ≤ sp) (hfull : way = nI 3 → sp - 4 * m + 4 ≤ n) :
    gx_call LL xs (d + 6) z_G_callAccelerated 0 0 [.ref 0, .ref (5 + 3 * k), .int (nI m), .int way, .int addr] (gc_h n μ sp fo pc lp cl tk tc F tn tl) (fun r h => r = some (.int (nI 1)) ∧ h = (gc_h n (ga_g1 μ (sp - 4 * m) fo way addr (ga_gb (F k).2.1 (ga_va μ sp) m)) (ga_g2 (sp - 4 * m) way) fo pc lp (ga_g3 cl way addr (ga_gb (F k).2.1 (ga_va μ sp) m)) tk tc F tn tl)) := by
  have c4 := k_G_canGo (LL := LL) (xs := xs) (d := d) (n := n) (μ := μ) (sp := sp) (fo := fo) (pc := pc) (lp := lp) (cl := cl) (tk := tk) (tc := tc) (F := F) (tn := tn) (tl := tl) way addr (fp2 := fo) (by omega) hμ (fun f h => ⟨(hf f h).1, (hf f h).2.1⟩)
  rw [hcg] at c4
  have e1 : nI sp - nI 4 * nI m = nI (sp - 4 * m) := by rw [pk_mul, pk_sub hm]
  have c6 : gx_call LL xs (d + 5) z_R_cutTo 0 0 [.ref 3, .int (nI sp - nI 4 * nI m)] (gc_h n μ sp fo pc lp cl tk tc F tn tl) (fun r h => r = none ∧ h = (gc_h n μ (sp - 4 * m) fo pc lp cl tk tc F tn tl)) := by
    rw [e1]; exact k_R_cutTo (by omega) (by omega)
  have c7 := k_G_send (LL := LL) (xs := xs) (d := d + 1) (n := n) (μ := μ) (sp := sp - 4 * m) (fo := fo) (pc := pc) (lp := lp) (cl := cl) (tk := tk) (tc := tc) (F := F) (tn := tn) (tl := tl) (ga_gb (F k).2.1 (ga_va μ sp) m) way addr hn (by omega) hμ (fun f h => ⟨(hf f h).1, (hf f h).2.2⟩) hcg hfull
  have rest : gx_E LL xs (gx_call LL xs (d + 5)) cd_G_callAccelerated (fun r h => r = some (.int (nI 1)) ∧ h = (gc_h n (ga_g1 μ (sp - 4 * m) fo way addr (ga_gb (F k).2.1 (ga_va μ sp) m)) (ga_g2 (sp - 4 * m) way) fo pc lp (ga_g3 cl way addr (ga_gb (F k).2.1 (ga_va μ sp) m)) tk tc F tn tl)) 29 [some (.ref 0), some (.ref (5 + 3 * k)), some (.int (nI m)), some (.int way), some (.int addr), some (.int (nI sp - nI 4 * nI m)), none] [] (gc_h n μ sp fo pc lp cl tk tc F tn tl) 0 0 := by
    refine gx_run 2 (gx_getf rfl (gc_at_o hk) rfl (gx_run 14 (And.intro ⟨_, rfl⟩ (gx_c1 (gx_le8 rfl) (k_G_givenBy hm hs hn hμ ha) (And.intro ⟨_, rfl⟩ (gx_c1 (gx_le8 rfl) c6 (And.intro ⟨_, rfl⟩ (gx_c1 (gx_le8 rfl) c7 (And.intro rfl rfl)))))))))
  refine gs_G_callAccelerated _ _ _ _ _ (gx_run 7 (And.intro ⟨_, rfl⟩ (gx_c1 (gx_le8 rfl) c4 (And.intro (fun _ => ?_) (fun c => absurd c (by decide))))))
  refine gx_run 11 (And.intro ⟨_, rfl⟩ (gx_c1 (gx_le8 rfl) k_R_end (And.intro (fun c => rest) (fun c => ?_))))
  have c5 := k_reaches_t (LL := LL) (xs := xs) (d := d + 4) (n := n) (μ := μ) (sp := sp) (fo := fo) (pc := pc) (lp := lp) (cl := cl) (tk := tk) (tc := tc) (F := F) (tn := tn) (tl := tl) (hfull c) hn
  rw [← nI_add, ← e1] at c5
  exact gx_run 7 (And.intro ⟨_, rfl⟩ (gx_c1 (gx_le8 rfl) c5 (And.intro (fun _ => rest) (fun c => absurd c (by decide)))))
end GCN
