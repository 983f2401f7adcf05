/-! The class's small methods that lean on the marks. -/
def ga_vc (μ : Nat → Nat) (sp : Nat) (M : ga_M) : Nat := match ga_top M with
  | none => 0
  | some _ => (sp - ga_base μ M) / 4
def ga_ce (x : Int32) : Bool := !(decide (x < 0)) && !(decide (nI 16 ≤ x))
/-- whether a value can go -/
def ga_cg (μ : Nat → Nat) (way addr : Int32) (fo : Option Nat) : Bool :=
  if way = nI 0 then true else if way = nI 1 then ga_ce addr else if way = nI 2 then (match fo with
    | none => false
    | some f => ga_il μ f addr (nI 4)) else if way = nI 3 then fo.isSome else false
def ga_g1 (μ : Nat → Nat) (sp : Nat) (fo : Option Nat) (way addr v : Int32) : Nat → Nat :=
  if way = nI 2 then (match fo with
    | none => μ
    | some f => ga_wr μ (f + ga_w μ (f + 4) + addr.toNatClampNeg) 4 v) else if way = nI 3 then ga_wr μ sp 4 v else μ
def ga_g2 (sp : Nat) (way : Int32) : Nat := if way = nI 3 then sp + 4 else sp
def ga_g3 (cl : Nat → Int32) (way addr v : Int32) : Nat → Int32 := if way = nI 1 then upd cl addr.toNatClampNeg v else cl
theorem ga_ce_of {x : Int32} (h : ga_ce x = true) : ∃ j, j < 16 ∧ x = nI j := by
  unfold ga_ce at h
  simp only [Bool.and_eq_true, Bool.not_eq_true', decide_eq_false_iff_not] at h
  rcases pk_ix x (n := 16) (by decide) with c | c | c
  · exact absurd c h.1
  · exact absurd c h.2
  · exact c
theorem ga_il_of {μ : Nat → Nat} {f w : Nat} {x : Int32} (hw : w ≤ 4) (hb : ga_w μ f < 2 ^ 30) (h : ga_il μ f x (nI w) = true) : ∃ p, x = nI p ∧ p + w ≤ ga_w μ f - ga_w μ (f + 4) := by
  unfold ga_il at h
  simp only [Bool.and_eq_true, Bool.not_eq_true', decide_eq_false_iff_not] at h
  obtain ⟨p, hp, rfl⟩ := nI_of h.1
  refine ⟨p, rfl, ?_⟩
  have h2 := h.2
  rw [Int32.lt_iff_toInt_lt, nI_toInt hp, pk_sub_toInt (by omega) (by omega)] at h2
  omega
theorem ga_g2_le {sp n : Nat} {way : Int32} (h : sp ≤ n) (h3 : way = nI 3 → sp + 4 ≤ n) : ga_g2 sp way ≤ n := by
  unfold ga_g2
  split
  · exact h3 (by assumption)
  · exact h
section GCJ
variable {LL : Nat} {xs : Nat → Int32} {d : Nat} {n : Nat} {μ : Nat → Nat} {sp : Nat} {fo : Option Nat} {pc lp : Int32} {cl : Nat → Int32} {tk : Nat → Nat} {tc : Nat} {F : Nat → ga_F} {tn : Nat → Int32} {tl : gx_H} {M : ga_M}
theorem k_G_valuesBegin {f : Nat} (hmk : ga_mk μ sp M) (htk : ga_tk tk M) (hs : sp ≤ n) (hn : n ≤ 1024) (hμ : ∀ i, μ i < 256) (hf : ga_top M = some f) : gx_call LL xs (d + 4) z_G_valuesBegin 0 0 [.ref 0] (gc_h n μ sp (ga_top M) pc lp cl tk (ga_tc M) F tn tl) (fun r h => r = some (.int (nI (ga_base μ M))) ∧ h = (gc_h n μ sp (ga_top M) pc lp cl tk (ga_tc M) F tn tl)) := by
  have hcnt := ga_tc_le hmk
  have hft := ga_mk_top hmk hf
  refine gs_G_valuesBegin _ (gx_run 7 (And.intro ⟨_, rfl⟩ (gx_c1 (gx_le8 rfl) (k_G_latestToken (by omega) (by omega)) ?_)))
  match M, hmk, htk, hf with
  | (true, g) :: es, ⟨h1, h2, h3, h4, h5, h6⟩, ht, hf =>
    cases hf
    refine And.intro (fun _ => ?_) (fun c => absurd ?_ c)
    · exact gx_run 5 (And.intro ⟨_, rfl⟩ (gx_c1 (gx_le8 rfl) (k_G_valuesAt (by omega) (by omega) hμ) (And.intro rfl rfl)))
    · show ga_fp (ga_lt tk (ga_tc es)) ≤ nI f
      cases hc : ga_tc es with
      | zero => rw [Int32.le_iff_toInt_le, nI_toInt (by omega)]; show (-(nI 1)).toInt ≤ _; rw [show (-(nI 1)).toInt = -1 by decide]; omega
      | succ c =>
        have := ga_tk_le h6 ht c (by omega)
        exact nI_le (by omega) (by omega)
  | (false, t) :: es, ⟨h1, h2, h3, h4, h5⟩, ⟨t1, t2⟩, hf =>
    have hf2 : ga_top es = some f := hf
    have hlt := ga_mk_top h5 hf2
    have e1 : ga_fp (ga_lt tk (ga_tc ((false, t) :: es))) = nI t := by
      show nI (tk (ga_tc es)) = nI t
      rw [t1]
    have e2 : ga_fp (ga_top ((false, t) :: es)) = nI f := by rw [hf]; rfl
    refine And.intro (fun c => ?_) (fun _ => gx_run 3 (And.intro ?_ rfl))
    · rw [e1, e2] at c
      exact absurd c (nI_ge (by omega) (by omega))
    · rw [e1]; rfl
theorem k_G_valueCount (hmk : ga_mk μ sp M) (htk : ga_tk tk M) (hs : sp ≤ n) (hn : n ≤ 1024) (hμ : ∀ i, μ i < 256) : gx_call LL xs (d + 5) z_G_valueCount 0 0 [.ref 0] (gc_h n μ sp (ga_top M) pc lp cl tk (ga_tc M) F tn tl) (fun r h => r = some (.int (nI (ga_vc μ sp M))) ∧ h = (gc_h n μ sp (ga_top M) pc lp cl tk (ga_tc M) F tn tl)) := by
  cases hf : ga_top M with
  | none =>
    refine gs_G_valueCount _ (gx_run 4 (And.intro (fun c => absurd rfl c) (fun _ => gx_run 3 (And.intro ?_ rfl))))
    unfold ga_vc
    rw [hf]
  | some f =>
    have hlt := ga_top_lt hmk hf
    have hb := ga_base_le hmk
    have hc := k_G_valuesBegin (LL := LL) (xs := xs) (d := d) (n := n) (pc := pc) (lp := lp) (cl := cl) (F := F) (tn := tn) (tl := tl) hmk htk hs hn hμ hf
    rw [hf] at hc
    refine gs_G_valueCount _ (gx_run 4 (And.intro (fun _ => gx_run 9 (And.intro ⟨_, rfl⟩ (gx_c1 (gx_le8 rfl) k_R_end (And.intro ⟨_, rfl⟩ (gx_c1 (gx_le8 rfl) hc (And.intro (by decide) (And.intro ?_ rfl))))))) (fun c => absurd c (ga_fp_none (by omega)))))
    rw [pk_sub hb, pk_div (by omega) (by decide) (by decide)]
    unfold ga_vc
    rw [hf]
theorem k_G_canGo (way addr : Int32) {fp2 : Option Nat} (hn : n < 2147483648) (hμ : ∀ i, μ i < 256) (hf : ∀ f, fp2 = some f → f + 8 ≤ n ∧ ga_w μ (f + 4) ≤ ga_w μ f) : gx_call LL xs (d + 5) z_G_canGo 0 0 [.ref 0, .int way, .int addr, .int (ga_fp fp2)] (gc_h n μ sp fo pc lp cl tk tc F tn tl) (fun r h => r = some (.int (ga_b (ga_cg μ way addr fp2))) ∧ h = (gc_h n μ sp fo pc lp cl tk tc F tn tl)) := by
  refine gs_G_canGo _ _ _ _ (gx_run 2 (And.intro (fun c => ?_) (And.intro (fun c => ?_) (And.intro (fun c => ?_) (And.intro (fun c => ?_) (And.intro (fun c => ?_) trivial))))))
  · have c0 : ¬ way = nI 0 := c 0 (by decide)
    have c1 : ¬ way = nI 1 := c 1 (by decide)
    have c2 : ¬ way = nI 2 := c 2 (by decide)
    have c3 : ¬ way = nI 3 := c 3 (by decide)
    refine gx_run 2 (And.intro (Or.inl rfl) (And.intro ?_ rfl))
    simp only [ga_cg, if_neg c0, if_neg c1, if_neg c2, if_neg c3, ga_b]
  · have c : way = nI 0 := c
    subst c
    exact gx_run 2 (And.intro (Or.inr rfl) (And.intro rfl rfl))
  · have c : way = nI 1 := c
    subst c
    have e : ga_cg μ (nI 1) addr fp2 = ga_ce addr := rfl
    rw [e]
    refine gx_run 3 (gx_c1 (gx_le8 rfl) (k_G_isCell addr) ?_)
    by_cases h : addr < 0 ∨ nI 16 ≤ addr
    · rw [if_pos h]
      refine And.intro (Or.inl rfl) (And.intro ?_ rfl)
      rcases h with h | h <;> simp [ga_ce, h, ga_b]
    · rw [if_neg h]
      refine And.intro (Or.inr rfl) (And.intro ?_ rfl)
      have h1 : ¬ addr < 0 := fun z => h (Or.inl z)
      have h2 : ¬ nI 16 ≤ addr := fun z => h (Or.inr z)
      simp only [ga_ce, h1, h2, ga_b, decide_false, Bool.not_false, Bool.and_true]
  · have c : way = nI 2 := c
    subst c
    cases fp2 with
    | none =>
      exact gx_run 3 (gx_c1 (gx_le8 rfl) (k_G_isFrame _) (And.intro (fun _ => gx_run 2 (And.intro (Or.inl rfl) (And.intro rfl rfl))) (fun c => absurd rfl c)))
    | some f =>
      obtain ⟨h1, h2⟩ := hf f rfl
      have e : ga_cg μ (nI 2) addr (some f) = ga_il μ f addr (nI 4) := rfl
      rw [e]
      refine gx_run 3 (gx_c1 (gx_le8 rfl) (k_G_isFrame _) ?_)
      rw [if_neg (show ¬ ga_fp (some f) = -(nI 1) from ga_fp_none (by omega))]
      refine And.intro (fun c => absurd c (by decide)) (fun _ => gx_run 6 (And.intro ⟨_, rfl⟩ (gx_c1 (gx_le8 rfl) (k_G_isInLocals addr (nI 4) h1 hn hμ h2) ?_)))
      cases ga_il μ f addr (nI 4) with
      | true => exact And.intro (fun c => absurd c (by decide)) (fun _ => gx_run 3 (And.intro (Or.inr rfl) (And.intro rfl rfl)))
      | false => exact And.intro (fun _ => gx_run 2 (And.intro (Or.inl rfl) (And.intro rfl rfl))) (fun c => absurd rfl c)
  · have c : way = nI 3 := c
    subst c
    cases fp2 with
    | none => exact gx_run 3 (gx_c1 (gx_le8 rfl) (k_G_isFrame _) (And.intro (Or.inl rfl) (And.intro rfl rfl)))
    | some f =>
      obtain ⟨h1, h2⟩ := hf f rfl
      refine gx_run 3 (gx_c1 (gx_le8 rfl) (k_G_isFrame _) ?_)
      rw [if_neg (show ¬ ga_fp (some f) = -(nI 1) from ga_fp_none (by omega))]
      exact And.intro (Or.inr rfl) (And.intro rfl rfl)
theorem k_G_send (v way addr : Int32) (hn : n ≤ 1024) (hs : sp ≤ n) (hμ : ∀ i, μ i < 256) (hf : ∀ f, fo = some f → f + 8 ≤ n ∧ f + ga_w μ f ≤ n) (hcg : ga_cg μ way addr fo = true) (h3 : way = nI 3 → sp + 4 ≤ n) :
    gx_call LL xs (d + 4) z_G_send 0 0 [.ref 0, .int v, .int way, .int addr] (gc_h n μ sp fo pc lp cl tk tc F tn tl) (fun r h => r = none ∧ h = (gc_h n (ga_g1 μ sp fo way addr v) (ga_g2 sp way) fo pc lp (ga_g3 cl way addr v) tk tc F tn tl)) := by
  refine gs_G_send _ _ _ _ (gx_run 2 (And.intro (fun c => ?_) (And.intro (fun c => ?_) (And.intro (fun c => ?_) (And.intro (fun c => ?_) trivial)))))
  · have c1 : ¬ way = nI 1 := c 0 (by decide)
    have c2 : ¬ way = nI 2 := c 1 (by decide)
    have c3 : ¬ way = nI 3 := c 2 (by decide)
    simp only [ga_g1, ga_g2, ga_g3, if_neg c1, if_neg c2, if_neg c3]
    exact gx_run 1 (And.intro rfl rfl)
  · have c : way = nI 1 := c
    subst c
    obtain ⟨j, hj, rfl⟩ := ga_ce_of (show ga_ce addr = true from hcg)
    refine gx_run 3 (gx_c1 (gx_le8 rfl) (k_G_isCell _) ?_)
    rw [if_neg (by
      rintro (h | h)
      · exact nI_pos (by omega) h
      · exact nI_ge hj (by omega) h)]
    refine And.intro (fun c => absurd c (by decide)) (fun _ => gx_run 7 (gx_ar j rfl hj (by decide) (And.intro rfl ?_)))
    have e : ga_g3 cl (nI 1) (nI j) v = upd cl j v := by
      show upd cl (nI j).toNatClampNeg v = _
      rw [nI_clamp (by omega)]
    rw [e]
    rfl
  · have c : way = nI 2 := c
    subst c
    cases fo with
    | none => exact Bool.noConfusion (show false = true from hcg)
    | some f =>
      obtain ⟨h1, h2⟩ := hf f rfl
      obtain ⟨p, rfl, hp⟩ := ga_il_of (w := 4) (by omega) (by omega) (show ga_il μ f addr (nI 4) = true from hcg)
      have e : ga_g1 μ sp (some f) (nI 2) (nI p) v = ga_wr μ (f + ga_w μ (f + 4) + p) 4 v := by
        show ga_wr μ (f + ga_w μ (f + 4) + (nI p).toNatClampNeg) 4 v = _
        rw [nI_clamp (by omega)]
      rw [e]
      have hc : gx_call LL xs (d + 3) z_R_set 0 0 [.ref 3, .int (nI (f + ga_w μ (f + 4)) + nI p), .int (nI 4), .int v] (gc_h n μ sp (some f) pc lp cl tk tc F tn tl) (fun r h => r = none ∧ h = (gc_h n (ga_wr μ (f + ga_w μ (f + 4) + p) 4 v) sp (some f) pc lp cl tk tc F tn tl)) := by
        rw [nI_add]
        exact k_R_set (by omega) (by omega)
      exact gx_run 13 (And.intro ⟨_, rfl⟩ (gx_c1 (gx_le8 rfl) (k_G_localsAt h1 (by omega) hμ) (And.intro ⟨_, rfl⟩ (gx_c1 (gx_le8 rfl) hc (And.intro rfl rfl)))))
  · have c : way = nI 3 := c
    subst c
    exact gx_run 6 (And.intro ⟨_, rfl⟩ (gx_c1 (gx_le8 rfl) (k_R_append (h3 rfl) (by omega)) (And.intro rfl rfl)))
theorem k_G_faultOfLast (x : Int32) (hmk : ga_mk μ sp M) (htk : ga_tk tk M) (hs : sp ≤ n) (hn : n ≤ 1024) (hμ : ∀ i, μ i < 256) : gx_call LL xs (d + 6) z_G_faultOfLast 0 0 [.ref 0, .int x] (gc_h n μ sp (ga_top M) pc lp cl tk (ga_tc M) F tn tl) (fun r h => r = some (.int (if x < 0 then -(nI 1) else if ga_top M = none then -(nI 16) else if nI (ga_vc μ sp M) < x then -(nI 12) else nI 0)) ∧ h = (gc_h n μ sp (ga_top M) pc lp cl tk (ga_tc M) F tn tl)) := by
  refine gs_G_faultOfLast _ _ (gx_run 2 (And.intro (fun c => ?_) (fun c => gx_run 2 (And.intro ?_ rfl))))
  · have c' : ¬ x < 0 := by rw [Int32.not_lt]; exact c
    rw [if_neg c']
    refine gx_run 4 (And.intro (fun c2 => ?_) (fun c2 => gx_run 2 (And.intro ?_ rfl)))
    · rw [if_neg (fun e => c2 (by rw [e]; rfl))]
      refine gx_run 4 (And.intro ⟨_, rfl⟩ (gx_c1 (gx_le8 rfl) (k_G_valueCount hmk htk hs hn hμ) ?_))
      refine And.intro (fun c3 => gx_run 2 (And.intro ?_ rfl)) (fun c3 => gx_run 3 (And.intro ?_ rfl))
      · rw [if_neg (Int32.not_lt.mpr c3)]
      · rw [if_pos (Int32.not_le.mp c3)]
    · have : ga_top M = none := by
        cases hf : ga_top M with
        | none => rfl
        | some f =>
          rw [hf] at c2
          have := ga_top_lt hmk hf
          exact absurd c2 (ga_fp_none (by omega))
      rw [if_pos this]
  · rw [if_pos (Int32.not_le.mp c)]
theorem k_G_faultOfLocal (place w : Int32) (hmk : ga_mk μ sp M) (hs : sp ≤ n) (hn : n ≤ 1024) (hμ : ∀ i, μ i < 256) : gx_call LL xs (d + 5) z_G_faultOfLocal 0 0 [.ref 0, .int place, .int w] (gc_h n μ sp (ga_top M) pc lp cl tk (ga_tc M) F tn tl) (fun r h => r = some (.int (if ¬ (w = nI 1 ∨ w = nI 2 ∨ w = nI 4) then -(nI 1) else match ga_top M with
    | none => -(nI 16)
    | some f => if ga_il μ f place w = true then nI 0 else -(nI 13))) ∧ h = (gc_h n μ sp (ga_top M) pc lp cl tk (ga_tc M) F tn tl)) := by
  refine gs_G_faultOfLocal _ _ _ (gx_run 3 (gx_c1 (gx_le8 rfl) (k_G_isWidth w) ?_))
  by_cases hw : w = nI 1 ∨ w = nI 2 ∨ w = nI 4
  · rw [if_pos hw, if_neg (fun h => h hw)]
    refine And.intro (fun _ => ?_) (fun c => absurd c (by decide))
    cases hf : ga_top M with
    | none => exact gx_run 4 (And.intro (fun c => absurd rfl c) (fun _ => gx_run 2 (And.intro rfl rfl)))
    | some f =>
      have hlt := ga_mk_top hmk hf
      refine gx_run 4 (And.intro (fun _ => ?_) (fun c => absurd c (ga_fp_none (by omega))))
      refine gx_run 7 (And.intro ⟨_, rfl⟩ (gx_c1 (gx_le8 rfl) (k_G_isInLocals place w (by omega) (by omega) hμ hlt.2.2.1) ?_))
      cases hi : ga_il μ f place w with
      | true => exact And.intro (fun c => absurd c (by decide)) (fun _ => gx_run 3 (And.intro (by show _ = some (Value.int (if ga_il μ f place w = true then nI 0 else -(nI 13))); rw [if_pos hi]) rfl))
      | false => exact And.intro (fun _ => gx_run 2 (And.intro (by show _ = some (Value.int (if ga_il μ f place w = true then nI 0 else -(nI 13))); rw [if_neg (by rw [hi]; decide)]) rfl)) (fun c => absurd rfl c)
  · rw [if_neg hw, if_pos hw]
    exact And.intro (fun c => absurd rfl c) (fun _ => gx_run 2 (And.intro rfl rfl))
theorem k_G_frameCount_l (hs : sp ≤ n) (hn : n ≤ 1024) (hμ : ∀ i, μ i < 256) (M0 : ga_M) : ∀ (M : ga_M) (lim c : Nat), ga_mk μ lim M → lim ≤ sp → 16 * c + 16 * ga_fc M ≤ n →
    gx_E LL xs (gx_call LL xs (d + 3)) cd_G_frameCount (fun r h => r = some (.int (nI (c + ga_fc M))) ∧ h = (gc_h n μ sp (ga_top M0) pc lp cl tk (ga_tc M0) F tn tl)) 5 [some (.ref 0), some (.int (nI c)), some (.int (ga_fp (ga_top M)))] [] (gc_h n μ sp (ga_top M0) pc lp cl tk (ga_tc M0) F tn tl) 0 0
  | [], lim, c, _, _, _ => gx_run 3 (gx_c1 (gx_le8 rfl) (k_G_isFrame _) (And.intro (fun _ => gx_run 2 (And.intro rfl rfl)) (fun c => absurd rfl c)))
  | (false, t) :: es, lim, c, ⟨h1, h2, h3, h4, h5⟩, hl, hc => k_G_frameCount_l hs hn hμ M0 es (t - 16) c h5 (by omega) hc
  | (true, f) :: es, lim, c, ⟨h1, h2, h3, h4, h5, h6⟩, hl, hc => by
    have hc' : 16 * c + 16 * (ga_fc es + 1) ≤ n := hc
    refine gx_run 3 (gx_c1 (gx_le8 rfl) (k_G_isFrame _) ?_)
    rw [if_neg (show ¬ ga_fp (ga_top ((true, f) :: es)) = -(nI 1) from ga_fp_none (by omega))]
    refine And.intro (fun c => absurd c (by decide)) (fun _ => gx_run 5 (And.intro ⟨_, rfl⟩ (gx_c1 (gx_le8 rfl) k_R_size (And.intro (fun z => absurd z (nI_ge (show c < n by omega) (by omega))) (fun _ => gx_run 6 (And.intro ⟨_, rfl⟩ (gx_c1 (gx_le8 rfl) (k_G_frameBelow (e := f) (by omega) (by omega) (by omega) hμ) ?_)))))))
    have h9 := k_G_frameCount_l hs hn hμ M0 es (f - 16) (c + 1) h6 (by omega) (by omega)
    rw [← h5, ← nI_add c 1, show c + 1 + ga_fc es = c + ga_fc ((true, f) :: es) from by show c + 1 + ga_fc es = c + (ga_fc es + 1); omega] at h9
    exact h9
theorem k_G_frameCount (hmk : ga_mk μ sp M) (hs : sp ≤ n) (hn : n ≤ 1024) (hμ : ∀ i, μ i < 256) : gx_call LL xs (d + 4) z_G_frameCount 0 0 [.ref 0] (gc_h n μ sp (ga_top M) pc lp cl tk (ga_tc M) F tn tl) (fun r h => r = some (.int (nI (ga_fc M))) ∧ h = (gc_h n μ sp (ga_top M) pc lp cl tk (ga_tc M) F tn tl)) := by
  have h9 := k_G_frameCount_l (LL := LL) (xs := xs) (d := d) (pc := pc) (lp := lp) (cl := cl) (tk := tk) (F := F) (tn := tn) (tl := tl) hs hn hμ M M sp 0 hmk (Nat.le_refl _) (by have := ga_tc_le hmk; omega)
  rw [Nat.zero_add] at h9
  exact gs_G_frameCount _ (gx_run 5 h9)
end GCJ
