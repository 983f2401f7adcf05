/-! roll and swap; locals; what can be seen. -/
theorem ga_rng (x : Int32) : -2147483648 ≤ x.toInt ∧ x.toInt < 2147483648 := by
  have h1 := Int32.le_toInt x
  have h2 := Int32.toInt_lt x
  omega
theorem ga_bm {z : Int} (h1 : -2147483648 ≤ z) (h2 : z < 2147483648) : z.bmod (2 ^ 32) = z := Int.bmod_eq_of_le (by omega) (by omega)
theorem ga_tm (x : Int) {m : Nat} (hm : 0 < m) : ∃ t : Int, t = x.tdiv m * m ∧ t + x.tmod m = x ∧ (0 ≤ x → 0 ≤ t ∧ 0 ≤ x.tmod m ∧ x.tmod m < m) ∧ (x ≤ 0 → t ≤ 0 ∧ x.tmod m ≤ 0 ∧ -(m : Int) < x.tmod m) := by
  refine ⟨_, rfl, ?_, fun h => ⟨?_, ?_, ?_⟩, fun h => ⟨?_, ?_, ?_⟩⟩
  · have := Int.mul_tdiv_add_tmod x m
    rw [Int.mul_comm] at this
    exact this
  · exact Int.mul_nonneg (Int.tdiv_nonneg h (by omega)) (by omega)
  · exact Int.tmod_nonneg _ h
  · exact Int.tmod_lt_of_pos x (by omega)
  · have h2 : 0 ≤ (-x).tdiv m := Int.tdiv_nonneg (by omega) (by omega)
    rw [Int.neg_tdiv] at h2
    have h3 : 0 ≤ (-(x.tdiv m)) * (m : Int) := Int.mul_nonneg h2 (by omega)
    rw [Int.neg_mul] at h3
    omega
  · have h2 : 0 ≤ (-x).tmod m := Int.tmod_nonneg _ (by omega)
    rw [Int.neg_tmod] at h2
    omega
  · have h2 : (-x).tmod m < m := Int.tmod_lt_of_pos (-x) (by omega)
    rw [Int.neg_tmod] at h2
    omega
theorem ga_rem (x : Int32) {m : Nat} (hm : 0 < m) (h2 : m < 2147483648) : (x - x / nI m * nI m).toInt = x.toInt.tmod m := by
  have hmi : (nI m).toInt = (m : Int) := nI_toInt h2
  have hr := ga_rng x
  obtain ⟨t, ht, h1, hp, hn⟩ := ga_tm x.toInt hm
  have hne : nI m ≠ -1 := fun e => by
    rw [e] at hmi
    have : ((-1 : Int32)).toInt = -1 := by decide
    omega
  have hd : (x / nI m).toInt = x.toInt.tdiv m := by rw [Int32.toInt_div_of_ne_right _ _ hne, hmi]
  have hb : -2147483648 ≤ t ∧ t < 2147483648 := by
    rcases Int.le_total 0 x.toInt with h | h
    · have := hp h; omega
    · have := hn h; omega
  have hmul : (x / nI m * nI m).toInt = t := by rw [Int32.toInt_mul, hd, hmi, ← ht, ga_bm hb.1 hb.2]
  rw [Int32.toInt_sub, hmul, ga_bm]
  · omega
  · rcases Int.le_total 0 x.toInt with h | h
    · have := hp h; omega
    · have := hn h; omega
  · rcases Int.le_total 0 x.toInt with h | h
    · have := hp h; omega
    · have := hn h; omega
def ga_fm (x : Int32) (m : Nat) : Nat := if x.toInt.tmod m < 0 then (x.toInt.tmod m + m).toNat else (x.toInt.tmod m).toNat
theorem ga_fm_lt (x : Int32) {m : Nat} (hm : 0 < m) : ga_fm x m < m := by
  obtain ⟨t, ht, h1, hp, hn⟩ := ga_tm x.toInt hm
  unfold ga_fm
  rcases Int.le_total 0 x.toInt with h | h
  · have := hp h
    rw [if_neg (by omega)]; omega
  · have := hn h
    split <;> omega
theorem ga_xor (x : Int32) {m : Nat} (h2 : m < 2147483648) : 0 ≤ x ^^^ nI m ↔ 0 ≤ x := by
  have hmi : (nI m).toInt = (m : Int) := nI_toInt h2
  have e : ∀ y : Int32, (0 ≤ y ↔ y.toBitVec.msb = false) := fun y => by
    rw [BitVec.msb_eq_toInt, Int32.le_iff_toInt_le]
    show (0 : Int32).toInt ≤ y.toBitVec.toInt ↔ _
    rw [Int32.toInt_zero]
    simp
  have h3 : (nI m).toBitVec.msb = false := (e _).mp (nI_pos' (by omega))
  rw [e, e, Int32.toBitVec_xor, BitVec.msb_xor, h3]
  simp
theorem k_J_floorMod {LL : Nat} {xs : Nat → Int32} {d : Nat} {h : gx_H} (x : Int32) {m : Nat} (hm : 0 < m) (h2 : m < 1000000000) : gx_call LL xs (d + 1) z_J_floorMod 0 0 [.int x, .int (nI m)] h (fun r h' => r = some (.int (nI (ga_fm x m))) ∧ h' = h) := by
  have hr := ga_rem x hm (by omega)
  have hmi : (nI m).toInt = (m : Int) := nI_toInt (by omega)
  obtain ⟨t, ht, h1, hp, hn⟩ := ga_tm x.toInt hm
  refine gs_J_floorMod _ _ (gx_run 3 (And.intro (nI_ne0 hm (by omega)) (gx_run 5 (And.intro (fun c => gx_run 2 (And.intro ?_ rfl)) (fun c => gx_run 2 (And.intro (fun c0 => gx_run 2 (And.intro ?_ rfl)) (fun c0 => gx_run 4 (And.intro ?_ rfl))))))))
  · have hx : 0 ≤ x.toInt := by
      have := (ga_xor x (show m < 2147483648 by omega)).mp c
      rw [Int32.le_iff_toInt_le, Int32.toInt_zero] at this
      exact this
    have := hp hx
    congr 2
    refine gx_nIx (n := ga_fm x m) ?_ (by have := ga_fm_lt x hm; omega)
    rw [hr]
    unfold ga_fm
    rw [if_neg (by omega)]
    omega
  · congr 2
    refine gx_nIx (n := ga_fm x m) ?_ (by have := ga_fm_lt x hm; omega)
    have e0 : x.toInt.tmod m = 0 := by rw [← hr, c0]; rfl
    rw [hr]
    unfold ga_fm
    rw [e0]
    rfl
  · have hx : ¬ 0 ≤ x.toInt := fun hx => c ((ga_xor x (show m < 2147483648 by omega)).mpr (by rw [Int32.le_iff_toInt_le, Int32.toInt_zero]; exact hx))
    have hq := hn (by omega)
    have e0 : ¬ x.toInt.tmod m = 0 := fun e => c0 (Int32.toInt_inj.mp (by rw [hr, e]; rfl))
    congr 2
    refine gx_nIx (n := ga_fm x m) ?_ (by have := ga_fm_lt x hm; omega)
    unfold ga_fm
    rw [if_pos (by omega), Int32.toInt_add, hr, hmi, ga_bm (by omega) (by omega)]
    omega
/-- what stands at place p of m rolled values -/
def ga_rj (m u p : Nat) : Nat := if m - 1 - p + u < m then m - 1 - p + u else m - 1 - p + u - m
def ga_rv (μ : Nat → Nat) (sp m u p : Nat) : Int32 := ga_rd μ (sp - 4 * (ga_rj m u p + 1)) 4
section GCK
variable {LL : Nat} {xs : Nat → Int32} {d : Nat} {n : Nat} {μ : Nat → Nat} {sp : Nat} {fo : Option Nat} {pc lp : Int32} {cl : Nat → Int32} {tk : Nat → Nat} {tc : Nat} {F : Nat → ga_F} {tn : Nat → Int32} {tl : gx_H} {M : ga_M}
theorem k_G_rollLast_l {m u : Nat} (hms : 4 * m ≤ sp) (hs : sp ≤ n) (hn : n ≤ 1024) (hu : u < m) : ∀ (k p : Nat) (w0 : Option Value), k + p = m →
    gx_E LL xs (gx_call LL xs (d + 4)) cd_G_rollLast (fun r h => r = none ∧ h = (gc_h n (ga_ws (sp - 4 * m) (ga_rv μ sp m u) μ m) sp fo pc lp cl tk tc F (ga_tv μ sp m tn) tl)) 7 [some (.ref 0), some (.int (nI m)), some (.int (nI u)), some (.int (nI k - nI 1)), w0] [] (gc_h n (ga_ws (sp - 4 * m) (ga_rv μ sp m u) μ p) (sp - 4 * m + 4 * p) fo pc lp cl tk tc F (ga_tv μ sp m tn) tl) 0 0 := by
  intro k
  induction k with
  | zero =>
    intro p w0 hk
    obtain rfl : p = m := by omega
    rw [show sp - 4 * p + 4 * p = sp by omega]
    exact gx_run 2 (And.intro (fun _ => gx_run 1 (And.intro rfl rfl)) (fun c => absurd (by decide) c))
  | succ k ih =>
    intro p w0 hk
    have e1 : nI (k + 1) - nI 1 = nI k := pk_sub (Nat.le_add_left 1 k)
    rw [e1]
    have hv : ga_tv μ sp m tn (ga_rj m u p) = ga_rv μ sp m u p := by
      unfold ga_tv ga_rv
      rw [if_pos (by unfold ga_rj; split <;> omega)]
    have hj : ga_rj m u p < n / 4 + 1 := by unfold ga_rj; split <;> omega
    have htv := k_G_takenValue (LL := LL) (xs := xs) (d := d + 3) (n := n) (μ := ga_ws (sp - 4 * m) (ga_rv μ sp m u) μ p) (sp := sp - 4 * m + 4 * p) (fo := fo) (pc := pc) (lp := lp) (cl := cl) (tk := tk) (tc := tc) (F := F) (tn := ga_tv μ sp m tn) (tl := tl) hj (by omega)
    rw [hv] at htv
    have h9 := ih (p + 1) (some (.int (nI k + nI u))) (by omega)
    rw [show sp - 4 * m + 4 * (p + 1) = sp - 4 * m + 4 * p + 4 by omega] at h9
    refine gx_run 2 (And.intro (fun c => absurd c (nI_pos (by omega))) (fun _ => gx_run 10 (And.intro (fun c => ?_) (fun c => ?_))))
    · rw [nI_add] at c
      have c' : m ≤ k + u := (nI_leI (by omega) (by omega)).mp c
      have ej : nI k + nI u - nI m = nI (ga_rj m u p) := by
        rw [nI_add, pk_sub c']
        unfold ga_rj
        rw [if_neg (by omega)]
        congr 1
        omega
      rw [← ej] at htv
      refine gx_run 7 (And.intro ⟨_, rfl⟩ (gx_c1 (gx_le8 rfl) htv (And.intro ⟨_, rfl⟩ (gx_c1 (gx_le8 rfl) (k_R_append (show sp - 4 * m + 4 * p + 4 ≤ n by omega) (show n < 2147483648 by omega)) ?_))))
      exact h9
    · rw [nI_add] at c
      have c' : k + u < m := by
        rcases Nat.lt_or_ge (k + u) m with h | h
        · exact h
        · exact absurd (nI_le h (by omega)) c
      have ej : nI k + nI u = nI (ga_rj m u p) := by
        rw [nI_add]
        unfold ga_rj
        rw [if_pos (by omega)]
        congr 1
        omega
      rw [← ej] at htv
      refine gx_run 6 (And.intro ⟨_, rfl⟩ (gx_c1 (gx_le8 rfl) htv (And.intro ⟨_, rfl⟩ (gx_c1 (gx_le8 rfl) (k_R_append (show sp - 4 * m + 4 * p + 4 ≤ n by omega) (show n < 2147483648 by omega)) ?_))))
      exact h9
theorem k_G_rollLast {m u : Nat} (hms : 4 * m ≤ sp) (hs : sp ≤ n) (hn : n ≤ 1024) (hμ : ∀ i, μ i < 256) (hu : u < m) : gx_call LL xs (d + 5) z_G_rollLast 0 0 [.ref 0, .int (nI m), .int (nI u)] (gc_h n μ sp fo pc lp cl tk tc F tn tl) (fun r h => r = none ∧ h = (gc_h n (ga_ws (sp - 4 * m) (ga_rv μ sp m u) μ m) sp fo pc lp cl tk tc F (ga_tv μ sp m tn) tl)) :=
  gs_G_rollLast _ _ _ (gx_run 7 (And.intro ⟨_, rfl⟩ (gx_c1 (gx_le8 rfl) (k_G_takeValues hms hs (by omega) hμ) (k_G_rollLast_l hms hs hn hu m 0 none (by omega)))))
theorem k_G_roll_e (x b : Int32) (hmk : ga_mk μ sp M) (htk : ga_tk tk M) (hs : sp ≤ n) (hn : n ≤ 1024) (hμ : ∀ i, μ i < 256) {y : Int32} (hy : ga_e μ sp M x = y) (h0 : ¬ y = 0) : gx_call LL xs (d + 7) z_G_roll 0 0 [.ref 0, .int x, .int b] (gc_h n μ sp (ga_top M) pc lp cl tk (ga_tc M) F tn tl) (fun r h => r = some (.int y) ∧ h = (gc_h n μ sp (ga_top M) pc lp cl tk (ga_tc M) F tn tl)) := by
  have hfl := k_G_faultOfLast (LL := LL) (xs := xs) (d := d) (pc := pc) (lp := lp) (cl := cl) (F := F) (tn := tn) (tl := tl) x hmk htk hs hn hμ
  rw [show (if x < 0 then -(nI 1) else if ga_top M = none then -(nI 16) else if nI (ga_vc μ sp M) < x then -(nI 12) else nI 0) = y from hy] at hfl
  exact gs_G_roll _ _ _ (gx_run 6 (And.intro ⟨_, rfl⟩ (gx_c1 (gx_le8 rfl) hfl (And.intro (fun c => absurd c h0) (fun _ => gx_run 2 (And.intro rfl rfl))))))
theorem k_G_roll_0 (b : Int32) (hmk : ga_mk μ sp M) (htk : ga_tk tk M) (hs : sp ≤ n) (hn : n ≤ 1024) (hμ : ∀ i, μ i < 256) (hy : ga_e μ sp M (nI 0) = nI 0) : gx_call LL xs (d + 7) z_G_roll 0 0 [.ref 0, .int (nI 0), .int b] (gc_h n μ sp (ga_top M) pc lp cl tk (ga_tc M) F tn tl) (fun r h => r = some (.int (nI 1)) ∧ h = (gc_h n μ sp (ga_top M) pc lp cl tk (ga_tc M) F tn tl)) := by
  have hfl := k_G_faultOfLast (LL := LL) (xs := xs) (d := d) (pc := pc) (lp := lp) (cl := cl) (F := F) (tn := tn) (tl := tl) (nI 0) hmk htk hs hn hμ
  rw [show (if nI 0 < 0 then -(nI 1) else if ga_top M = none then -(nI 16) else if nI (ga_vc μ sp M) < nI 0 then -(nI 12) else nI 0) = nI 0 from hy] at hfl
  exact gs_G_roll _ _ _ (gx_run 6 (And.intro ⟨_, rfl⟩ (gx_c1 (gx_le8 rfl) hfl (And.intro (fun _ => gx_run 2 (And.intro (fun _ => gx_run 2 (And.intro rfl rfl)) (fun c => absurd (by decide) c))) (fun c => absurd rfl c)))))
theorem k_G_roll (b : Int32) {m : Nat} (h1 : 0 < m) (hmk : ga_mk μ sp M) (htk : ga_tk tk M) (hs : sp ≤ n) (hn : n ≤ 1024) (hμ : ∀ i, μ i < 256) (hm : m ≤ ga_vc μ sp M) (hy : ga_e μ sp M (nI m) = nI 0) : gx_call LL xs (d + 7) z_G_roll 0 0 [.ref 0, .int (nI m), .int b] (gc_h n μ sp (ga_top M) pc lp cl tk (ga_tc M) F tn tl) (fun r h => r = some (.int (nI 1)) ∧ h = (gc_h n (ga_ws (sp - 4 * m) (ga_rv μ sp m (ga_fm b m)) μ m) sp (ga_top M) pc lp cl tk (ga_tc M) F (ga_tv μ sp m tn) tl)) := by
  have hfl := k_G_faultOfLast (LL := LL) (xs := xs) (d := d) (pc := pc) (lp := lp) (cl := cl) (F := F) (tn := tn) (tl := tl) (nI m) hmk htk hs hn hμ
  rw [show (if nI m < 0 then -(nI 1) else if ga_top M = none then -(nI 16) else if nI (ga_vc μ sp M) < nI m then -(nI 12) else nI 0) = nI 0 from hy] at hfl
  have hvl := ga_vc_le hmk
  refine gs_G_roll _ _ _ (gx_run 6 (And.intro ⟨_, rfl⟩ (gx_c1 (gx_le8 rfl) hfl (And.intro (fun _ => gx_run 2 (And.intro (fun c => absurd c (nI_nle h1 (by omega))) (fun _ => ?_))) (fun c => absurd rfl c)))))
  exact gx_run 8 (gx_c1 (gx_le8 rfl) (k_J_floorMod b h1 (by omega)) (And.intro ⟨_, rfl⟩ (gx_c1 (gx_le8 rfl) (k_G_rollLast (by omega) hs hn hμ (ga_fm_lt b h1)) (And.intro rfl rfl))))
theorem k_G_swap_e (hmk : ga_mk μ sp M) (htk : ga_tk tk M) (hs : sp ≤ n) (hn : n ≤ 1024) (hμ : ∀ i, μ i < 256) {y : Int32} (hy : ga_e μ sp M (nI 2) = y) (h0 : ¬ y = 0) : gx_call LL xs (d + 7) z_G_swap 0 0 [.ref 0] (gc_h n μ sp (ga_top M) pc lp cl tk (ga_tc M) F tn tl) (fun r h => r = some (.int y) ∧ h = (gc_h n μ sp (ga_top M) pc lp cl tk (ga_tc M) F tn tl)) := by
  have hfl := k_G_faultOfLast (LL := LL) (xs := xs) (d := d) (pc := pc) (lp := lp) (cl := cl) (F := F) (tn := tn) (tl := tl) (nI 2) hmk htk hs hn hμ
  rw [show (if nI 2 < 0 then -(nI 1) else if ga_top M = none then -(nI 16) else if nI (ga_vc μ sp M) < nI 2 then -(nI 12) else nI 0) = y from hy] at hfl
  exact gs_G_swap _ (gx_run 6 (And.intro ⟨_, rfl⟩ (gx_c1 (gx_le8 rfl) hfl (And.intro (fun c => absurd c h0) (fun _ => gx_run 2 (And.intro rfl rfl))))))
theorem k_G_swap (hmk : ga_mk μ sp M) (htk : ga_tk tk M) (hs : sp ≤ n) (hn : n ≤ 1024) (hμ : ∀ i, μ i < 256) (hm : 2 ≤ ga_vc μ sp M) (hy : ga_e μ sp M (nI 2) = nI 0) : gx_call LL xs (d + 7) z_G_swap 0 0 [.ref 0] (gc_h n μ sp (ga_top M) pc lp cl tk (ga_tc M) F tn tl) (fun r h => r = some (.int (nI 1)) ∧ h = (gc_h n (ga_ws (sp - 4 * 2) (ga_rv μ sp 2 1) μ 2) sp (ga_top M) pc lp cl tk (ga_tc M) F (ga_tv μ sp 2 tn) tl)) := by
  have hfl := k_G_faultOfLast (LL := LL) (xs := xs) (d := d) (pc := pc) (lp := lp) (cl := cl) (F := F) (tn := tn) (tl := tl) (nI 2) hmk htk hs hn hμ
  rw [show (if nI 2 < 0 then -(nI 1) else if ga_top M = none then -(nI 16) else if nI (ga_vc μ sp M) < nI 2 then -(nI 12) else nI 0) = nI 0 from hy] at hfl
  have hvl := ga_vc_le hmk
  exact gs_G_swap _ (gx_run 6 (And.intro ⟨_, rfl⟩ (gx_c1 (gx_le8 rfl) hfl (And.intro (fun _ => gx_run 6 (And.intro ⟨_, rfl⟩ (gx_c1 (gx_le8 rfl) (k_G_rollLast (by omega) hs hn hμ (by omega)) (And.intro rfl rfl)))) (fun c => absurd rfl c)))))
/-- what stands against a place of locals -/
def ga_el (μ : Nat → Nat) (M : ga_M) (place w : Int32) : Int32 := if ¬ (w = nI 1 ∨ w = nI 2 ∨ w = nI 4) then -(nI 1) else match ga_top M with
    | none => -(nI 16)
    | some f => if ga_il μ f place w = true then nI 0 else -(nI 13)
theorem ga_el0 {μ : Nat → Nat} {M : ga_M} {place w : Int32} (hb : ∀ f, ga_top M = some f → ga_w μ f < 2 ^ 30) (h : ga_el μ M place w = nI 0) : ∃ f p v, ga_top M = some f ∧ place = nI p ∧ w = nI v ∧ (v = 1 ∨ v = 2 ∨ v = 4) ∧ p + v ≤ ga_w μ f - ga_w μ (f + 4) := by
  unfold ga_el at h
  by_cases hw : w = nI 1 ∨ w = nI 2 ∨ w = nI 4
  · rw [if_neg (fun h => h hw)] at h
    obtain ⟨v, rfl, hv⟩ : ∃ v, w = nI v ∧ (v = 1 ∨ v = 2 ∨ v = 4) := by
      rcases hw with rfl | rfl | rfl
      · exact ⟨1, rfl, by omega⟩
      · exact ⟨2, rfl, by omega⟩
      · exact ⟨4, rfl, by omega⟩
    cases hf : ga_top M with
    | none => rw [hf] at h; exact absurd (show -(nI 16) = nI 0 from h) (by decide)
    | some f =>
      rw [hf] at h
      dsimp only at h
      split at h
      · rename_i hi
        obtain ⟨p, hp, hp2⟩ := ga_il_of (w := v) (by omega) (hb f hf) hi
        exact ⟨f, p, v, rfl, hp, rfl, hv, hp2⟩
      · exact absurd h (by decide)
  · rw [if_pos hw] at h
    exact absurd h (by decide)
theorem k_G_fl2 (place w : Int32) (hmk : ga_mk μ sp M) (hs : sp ≤ n) (hn : n ≤ 1024) (hμ : ∀ i, μ i < 256) : gx_call LL xs (d + 5) z_G_faultOfLocal 0 0 [.ref 0, .int place, .int w] (gc_h n μ sp (ga_top M) pc lp cl tk (ga_tc M) F tn tl) (fun r h => r = some (.int (ga_el μ M place w)) ∧ h = (gc_h n μ sp (ga_top M) pc lp cl tk (ga_tc M) F tn tl)) :=
  k_G_faultOfLocal place w hmk hs hn hμ
theorem k_G_load_e (place w : Int32) (hmk : ga_mk μ sp M) (hs : sp ≤ n) (hn : n ≤ 1024) (hμ : ∀ i, μ i < 256) {y : Int32} (hy : ga_el μ M place w = y) (h0 : ¬ y = 0) : gx_call LL xs (d + 6) z_G_load 0 0 [.ref 0, .int place, .int w] (gc_h n μ sp (ga_top M) pc lp cl tk (ga_tc M) F tn tl) (fun r h => r = some (.int y) ∧ h = (gc_h n μ sp (ga_top M) pc lp cl tk (ga_tc M) F tn tl)) := by
  have hfl := k_G_fl2 (LL := LL) (xs := xs) (d := d) (pc := pc) (lp := lp) (cl := cl) (tk := tk) (F := F) (tn := tn) (tl := tl) place w hmk hs hn hμ
  rw [hy] at hfl
  exact gs_G_load _ _ _ (gx_run 7 (And.intro ⟨_, rfl⟩ (gx_c1 (gx_le8 rfl) hfl (And.intro (fun c => absurd c h0) (fun _ => gx_run 2 (And.intro rfl rfl))))))
theorem k_G_load {f p v : Nat} (hmk : ga_mk μ sp M) (hs : sp ≤ n) (hn : n ≤ 1024) (hμ : ∀ i, μ i < 256) (hy : ga_el μ M (nI p) (nI v) = nI 0) (hf : ga_top M = some f) (hv : v ≤ 4) (hp : p + v ≤ ga_w μ f - ga_w μ (f + 4)) : gx_call LL xs (d + 6) z_G_load 0 0 [.ref 0, .int (nI p), .int (nI v)] (gc_h n μ sp (ga_top M) pc lp cl tk (ga_tc M) F tn tl) (fun r h => r = some (.int (nI 1)) ∧ h = (gc_h n μ sp (ga_top M) pc (ga_rd μ (f + ga_w μ (f + 4) + p) v) cl tk (ga_tc M) F tn tl)) := by
  have hfl := k_G_fl2 (LL := LL) (xs := xs) (d := d) (pc := pc) (lp := lp) (cl := cl) (tk := tk) (F := F) (tn := tn) (tl := tl) (nI p) (nI v) hmk hs hn hμ
  rw [hy] at hfl
  have hlt := ga_mk_top hmk hf
  rw [hf] at hfl ⊢
  have hc : gx_call LL xs (d + 5) z_R_number 0 0 [.ref 3, .int (nI (f + ga_w μ (f + 4)) + nI p), .int (nI v)] (gc_h n μ sp (some f) pc lp cl tk (ga_tc M) F tn tl) (fun r h => r = some (.int (ga_rd μ (f + ga_w μ (f + 4) + p) v)) ∧ h = (gc_h n μ sp (some f) pc lp cl tk (ga_tc M) F tn tl)) := by
    rw [nI_add]
    exact k_R_number (by omega) (by omega) hμ
  refine gs_G_load _ _ _ (gx_run 7 (And.intro ⟨_, rfl⟩ (gx_c1 (gx_le8 rfl) hfl (And.intro (fun _ => ?_) (fun c => absurd rfl c)))))
  exact gx_run 14 (And.intro ⟨_, rfl⟩ (gx_c1 (gx_le8 rfl) (k_G_localsAt (by omega) (by omega) hμ) (And.intro ⟨_, rfl⟩ (gx_c1 (gx_le8 rfl) hc (And.intro rfl rfl)))))
theorem k_G_store_e (place w x : Int32) (hmk : ga_mk μ sp M) (hs : sp ≤ n) (hn : n ≤ 1024) (hμ : ∀ i, μ i < 256) {y : Int32} (hy : ga_el μ M place w = y) (h0 : ¬ y = 0) : gx_call LL xs (d + 6) z_G_store 0 0 [.ref 0, .int place, .int w, .int x] (gc_h n μ sp (ga_top M) pc lp cl tk (ga_tc M) F tn tl) (fun r h => r = some (.int y) ∧ h = (gc_h n μ sp (ga_top M) pc lp cl tk (ga_tc M) F tn tl)) := by
  have hfl := k_G_fl2 (LL := LL) (xs := xs) (d := d) (pc := pc) (lp := lp) (cl := cl) (tk := tk) (F := F) (tn := tn) (tl := tl) place w hmk hs hn hμ
  rw [hy] at hfl
  exact gs_G_store _ _ _ _ (gx_run 7 (And.intro ⟨_, rfl⟩ (gx_c1 (gx_le8 rfl) hfl (And.intro (fun c => absurd c h0) (fun _ => gx_run 2 (And.intro rfl rfl))))))
theorem k_G_store {f p v : Nat} (x : Int32) (hmk : ga_mk μ sp M) (hs : sp ≤ n) (hn : n ≤ 1024) (hμ : ∀ i, μ i < 256) (hy : ga_el μ M (nI p) (nI v) = nI 0) (hf : ga_top M = some f) (hv : v ≤ 4) (hp : p + v ≤ ga_w μ f - ga_w μ (f + 4)) : gx_call LL xs (d + 6) z_G_store 0 0 [.ref 0, .int (nI p), .int (nI v), .int x] (gc_h n μ sp (ga_top M) pc lp cl tk (ga_tc M) F tn tl) (fun r h => r = some (.int (nI 1)) ∧ h = (gc_h n (ga_wr μ (f + ga_w μ (f + 4) + p) v x) sp (ga_top M) pc lp cl tk (ga_tc M) F tn tl)) := by
  have hfl := k_G_fl2 (LL := LL) (xs := xs) (d := d) (pc := pc) (lp := lp) (cl := cl) (tk := tk) (F := F) (tn := tn) (tl := tl) (nI p) (nI v) hmk hs hn hμ
  rw [hy] at hfl
  have hlt := ga_mk_top hmk hf
  rw [hf] at hfl ⊢
  have hc : gx_call LL xs (d + 5) z_R_set 0 0 [.ref 3, .int (nI (f + ga_w μ (f + 4)) + nI p), .int (nI v), .int x] (gc_h n μ sp (some f) pc lp cl tk (ga_tc M) F tn tl) (fun r h => r = none ∧ h = (gc_h n (ga_wr μ (f + ga_w μ (f + 4) + p) v x) sp (some f) pc lp cl tk (ga_tc M) F tn tl)) := by
    rw [nI_add]
    exact k_R_set (by omega) (by omega)
  refine gs_G_store _ _ _ _ (gx_run 7 (And.intro ⟨_, rfl⟩ (gx_c1 (gx_le8 rfl) hfl (And.intro (fun _ => ?_) (fun c => absurd rfl c)))))
  exact gx_run 13 (And.intro ⟨_, rfl⟩ (gx_c1 (gx_le8 rfl) (k_G_localsAt (by omega) (by omega) hμ) (And.intro ⟨_, rfl⟩ (gx_c1 (gx_le8 rfl) hc (And.intro rfl rfl)))))
theorem k_G_byteAt_n (x : Int32) (hx : x < 0 ∨ nI sp ≤ x) : gx_call LL xs (d + 2) z_G_byteAt 0 0 [.ref 0, .int x] (gc_h n μ sp fo pc lp cl tk tc F tn tl) (fun r h => r = some (.int (-(nI 1))) ∧ h = (gc_h n μ sp fo pc lp cl tk tc F tn tl)) := by
  refine gs_G_byteAt _ _ (gx_run 2 (And.intro (fun _ => gx_run 2 (And.intro rfl rfl)) (fun c1 => gx_run 5 (And.intro ⟨_, rfl⟩ (gx_c1 (gx_le8 rfl) k_R_end (And.intro (fun _ => gx_run 2 (And.intro rfl rfl)) (fun c => ?_)))))))
  rcases hx with hx | hx
  · exact absurd hx c1
  · exact absurd hx c
theorem ga_rd1 (μ : Nat → Nat) (a : Nat) : ga_rd μ a 1 = nI (μ a) := by
  show (nI 0 <<< (nI 8 &&& 31)) ||| nI (μ (a + 0)) = _
  rw [show nI 0 <<< (nI 8 &&& 31) = 0 by decide]
  refine b_ext fun i hi => ?_
  rw [b_or, b_0, Bool.false_or]
  rfl
theorem k_G_byteAt {j : Nat} (hj : j < sp) (hs : sp ≤ n) (hn : n ≤ 1024) (hμ : ∀ i, μ i < 256) : gx_call LL xs (d + 3) z_G_byteAt 0 0 [.ref 0, .int (nI j)] (gc_h n μ sp fo pc lp cl tk tc F tn tl) (fun r h => r = some (.int (nI (μ j))) ∧ h = (gc_h n μ sp fo pc lp cl tk tc F tn tl)) := by
  refine gs_G_byteAt _ _ (gx_run 2 (And.intro (fun c => absurd c (nI_pos (by omega))) (fun c1 => gx_run 5 (And.intro ⟨_, rfl⟩ (gx_c1 (gx_le8 rfl) k_R_end (And.intro (fun c => absurd c (nI_ge hj (by omega))) (fun _ => gx_run 7 (And.intro ⟨_, rfl⟩ (gx_c1 (gx_le8 rfl) (k_R_number (by omega) (by omega) hμ) (And.intro ?_ rfl))))))))))
  rw [ga_rd1]
theorem k_G_cell_n (x : Int32) (hx : x < 0 ∨ nI 16 ≤ x) : gx_call LL xs (d + 2) z_G_cell 0 0 [.ref 0, .int x] (gc_h n μ sp fo pc lp cl tk tc F tn tl) (fun r h => r = some (.int (nI 0)) ∧ h = (gc_h n μ sp fo pc lp cl tk tc F tn tl)) := by
  refine gs_G_cell _ _ (gx_run 3 (gx_c1 (gx_le8 rfl) (k_G_isCell x) ?_))
  rw [if_pos hx]
  exact And.intro (fun _ => gx_run 2 (And.intro rfl rfl)) (fun c => absurd rfl c)
theorem k_G_cell {j : Nat} (hj : j < 16) : gx_call LL xs (d + 2) z_G_cell 0 0 [.ref 0, .int (nI j)] (gc_h n μ sp fo pc lp cl tk tc F tn tl) (fun r h => r = some (.int (cl j)) ∧ h = (gc_h n μ sp fo pc lp cl tk tc F tn tl)) := by
  refine gs_G_cell _ _ (gx_run 3 (gx_c1 (gx_le8 rfl) (k_G_isCell _) ?_))
  rw [if_neg (by
    rintro (h | h)
    · exact nI_pos (by omega) h
    · exact nI_ge hj (by omega) h)]
  exact And.intro (fun c => absurd c (by decide)) (fun _ => gx_run 6 (gx_ar j rfl hj (by decide) (And.intro rfl rfl)))
/-- count -/
def ga_ct (n : Nat) (μ : Nat → Nat) (sp : Nat) (M : ga_M) (pc : Int32) (tk : Nat → Nat) (x : Int32) : Int32 :=
  if x = nI 0 then nI sp else if x = nI 1 then ga_fp (ga_top M) else if x = nI 2 then (match ga_top M with
    | none => -(nI 1)
    | some _ => nI (ga_vc μ sp M)) else if x = nI 3 then pc else if x = nI 4 then nI n else if x = nI 5 then nI (ga_tc M) else if x = nI 6 then ga_fp (ga_lt tk (ga_tc M)) else if x = nI 7 then nI (ga_fc M) else -(nI 1)
theorem k_G_count (x : Int32) (hmk : ga_mk μ sp M) (htk : ga_tk tk M) (hs : sp ≤ n) (hn : n ≤ 1024) (hμ : ∀ i, μ i < 256) : gx_call LL xs (d + 6) z_G_count 0 0 [.ref 0, .int x] (gc_h n μ sp (ga_top M) pc lp cl tk (ga_tc M) F tn tl) (fun r h => r = some (.int (ga_ct n μ sp M pc tk x)) ∧ h = (gc_h n μ sp (ga_top M) pc lp cl tk (ga_tc M) F tn tl)) := by
  have hcnt := ga_tc_le hmk
  refine gs_G_count _ _ (gx_run 2 (And.intro (fun c => ?_) (And.intro (fun c => ?_) (And.intro (fun c => ?_) (And.intro (fun c => ?_) (And.intro (fun c => ?_) (And.intro (fun c => ?_) (And.intro (fun c => ?_) (And.intro (fun c => ?_) (And.intro (fun c => ?_) trivial))))))))))
  · refine gx_run 2 (And.intro ?_ rfl)
    have c0 : ¬ x = nI 0 := c 0 (by decide)
    have c1 : ¬ x = nI 1 := c 1 (by decide)
    have c2 : ¬ x = nI 2 := c 2 (by decide)
    have c3 : ¬ x = nI 3 := c 3 (by decide)
    have c4 : ¬ x = nI 4 := c 4 (by decide)
    have c5 : ¬ x = nI 5 := c 5 (by decide)
    have c6 : ¬ x = nI 6 := c 6 (by decide)
    have c7 : ¬ x = nI 7 := c 7 (by decide)
    simp only [ga_ct, if_neg c0, if_neg c1, if_neg c2, if_neg c3, if_neg c4, if_neg c5, if_neg c6, if_neg c7]
  · obtain rfl : x = nI 0 := c
    exact gx_run 4 (And.intro ⟨_, rfl⟩ (gx_c1 (gx_le8 rfl) k_R_end (And.intro rfl rfl)))
  · obtain rfl : x = nI 1 := c
    exact gx_run 3 (And.intro rfl rfl)
  · obtain rfl : x = nI 2 := c
    have hvc := k_G_valueCount (LL := LL) (xs := xs) (d := d) (n := n) (pc := pc) (lp := lp) (cl := cl) (F := F) (tn := tn) (tl := tl) hmk htk hs hn hμ
    have e : ga_ct n μ sp M pc tk (nI 2) = match ga_top M with
      | none => -(nI 1)
      | some _ => nI (ga_vc μ sp M) := rfl
    rw [e]
    cases hf : ga_top M with
    | none => exact gx_run 4 (And.intro (fun c => absurd rfl c) (fun _ => gx_run 3 (And.intro rfl rfl)))
    | some f =>
      have hlt := ga_top_lt hmk hf
      rw [hf] at hvc
      exact gx_run 4 (And.intro (fun _ => gx_run 3 (And.intro ⟨_, rfl⟩ (gx_c1 (gx_le8 rfl) hvc (And.intro rfl rfl)))) (fun c => absurd c (ga_fp_none (by omega))))
  · obtain rfl : x = nI 3 := c
    exact gx_run 3 (And.intro rfl rfl)
  · obtain rfl : x = nI 4 := c
    exact gx_run 4 (And.intro ⟨_, rfl⟩ (gx_c1 (gx_le8 rfl) k_R_size (And.intro rfl rfl)))
  · obtain rfl : x = nI 5 := c
    exact gx_run 3 (And.intro rfl rfl)
  · obtain rfl : x = nI 6 := c
    exact gx_run 3 (And.intro ⟨_, rfl⟩ (gx_c1 (gx_le8 rfl) (k_G_latestToken (by omega) (by omega)) (And.intro rfl rfl)))
  · obtain rfl : x = nI 7 := c
    exact gx_run 3 (And.intro ⟨_, rfl⟩ (gx_c1 (gx_le8 rfl) (k_G_frameCount hmk hs hn hμ) (And.intro rfl rfl)))
end GCK
