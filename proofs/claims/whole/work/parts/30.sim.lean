/-! Each method of both: the same answer, and states that go on together. -/
def ga_I (n : Nat) (μ : Nat → Nat) (sp : Nat) (M : ga_M) (tk : Nat → Nat) (F : Nat → ga_F) : Prop := 64 ≤ n ∧ n ≤ 1024 ∧ sp ≤ n ∧ (∀ i, μ i < 256) ∧ ga_mk μ sp M ∧ ga_tk tk M ∧ ∀ k, k < 12 → ga_wf (F k)
def ga_S (LL : Nat) (xs : Nat → Int32) (zG zM : Nat) (av : List Value) (n : Nat) (μ : Nat → Nat) (sp : Nat) (M : ga_M) (pc lp : Int32) (cl : Nat → Int32) (tk : Nat → Nat) (F : Nat → ga_F) (tn gv : Nat → Int32) : Prop :=
  ∃ (r : Int32) (μ' : Nat → Nat) (sp' : Nat) (M' : ga_M) (pc' lp' : Int32) (cl' : Nat → Int32) (tk' : Nat → Nat) (F' : Nat → ga_F) (tn' gv' : Nat → Int32), ga_I n μ' sp' M' tk' F' ∧
    (∀ tl, gx_call LL xs 8 zG 0 0 (.ref 0 :: av) (gc_h n μ sp (ga_top M) pc lp cl tk (ga_tc M) F tn tl) (fun r' h => r' = some (.int r) ∧ h = (gc_h n μ' sp' (ga_top M') pc' lp' cl' tk' (ga_tc M') F' tn' tl))) ∧
    (∀ pre, gx_call LL xs 8 zM 0 0 (.ref 43 :: av) (gm_h pre n μ sp (ga_top M) pc lp cl tk (ga_tc M) F gv) (fun r' h => r' = some (.int r) ∧ h = (gm_h pre n μ' sp' (ga_top M') pc' lp' cl' tk' (ga_tc M') F' gv')))
theorem ga_k12 {x : Int32} (h : ¬ (x < 0 ∨ nI 12 ≤ x)) : ∃ k, k < 12 ∧ x = nI k := by
  rcases pk_ix x (n := 12) (by decide) with c | c | c
  · exact absurd (Or.inl c) h
  · exact absurd (Or.inr c) h
  · exact c
theorem ga_jc {x : Int32} {c : Nat} (hc : c < 2147483647) (h : ¬ (x < 0 ∨ nI c < x)) : ∃ j, j ≤ c ∧ x = nI j :=
  ga_in hc ((ga_i64 x c (by omega)).mpr ⟨fun z => h (Or.inl z), fun z => h (Or.inr z)⟩)
theorem ga_up_wf {F : Nat → ga_F} {k : Nat} {f0 : ga_F} (hF : ∀ k, k < 12 → ga_wf (F k)) (h : ga_wf f0) : ∀ j, j < 12 → ga_wf (va_up F k f0 j) := fun j hj => by
  unfold va_up
  split
  · exact h
  · exact hF j hj
theorem ga_split_top {μ tk : Nat → Nat} : ∀ {M : ga_M} {lim f : Nat}, ga_mk μ lim M → ga_tk tk M → ga_top M = some f → ∃ es : ga_M, ga_rd μ (f - 4) 4 = ga_fp (ga_top es) ∧ ga_mk μ (f - 16) es ∧ ga_tk tk es ∧ ga_tc es ≤ ga_tc M ∧ ∀ i, ga_tc es ≤ i → i < ga_tc M → f ≤ tk i
  | (true, g) :: es, lim, f, ⟨a, b, c, d, e, h⟩, ht, hf => by
    cases hf
    exact ⟨es, e, h, ht, Nat.le_refl _, fun i h1 h2 => absurd h2 (Nat.not_lt.mpr h1)⟩
  | (false, t) :: es, lim, f, ⟨a, b, c, d, e⟩, ⟨t1, t2⟩, hf => by
    have hlt := ga_mk_top e (show ga_top es = some f from hf)
    obtain ⟨es', h1, h2, h3, h4, h5⟩ := ga_split_top e t2 (show ga_top es = some f from hf)
    refine ⟨es', h1, h2, h3, Nat.le_succ_of_le h4, fun i hi1 hi2 => ?_⟩
    have hi2 : i < ga_tc es + 1 := hi2
    by_cases hi : i = ga_tc es
    · rw [hi, t1]; omega
    · exact h5 i hi1 (by omega)
theorem ga_split_tok {μ tk : Nat → Nat} : ∀ {M : ga_M} {lim j : Nat}, ga_mk μ lim M → ga_tk tk M → j < ga_tc M → ∃ es : ga_M, ga_tc es = j ∧ 16 ≤ tk j ∧ tk j ≤ lim ∧ ga_rd μ (tk j - 4) 4 = ga_fp (ga_top es) ∧ ga_mk μ (tk j - 16) es ∧ ga_tk tk es ∧ ∀ i, j ≤ i → i < ga_tc M → tk j ≤ tk i
  | (true, g) :: es, lim, j, ⟨a, b, c, d, e, h⟩, ht, hj => by
    obtain ⟨es', h0, h1, h2, h3, h4, h5, h6⟩ := ga_split_tok h ht hj
    exact ⟨es', h0, h1, by omega, h3, h4, h5, h6⟩
  | (false, t) :: es, lim, j, ⟨a, b, c, d, e⟩, ⟨t1, t2⟩, hj => by
    have hj : j < ga_tc es + 1 := hj
    by_cases hi : j = ga_tc es
    · subst hi
      rw [t1]
      refine ⟨es, rfl, a, b, d, e, t2, fun i h1 h2 => ?_⟩
      have h2 : i < ga_tc es + 1 := h2
      rw [show i = ga_tc es by omega, t1]
      exact Nat.le_refl _
    · obtain ⟨es', h0, h1, h2, h3, h4, h5, h6⟩ := ga_split_tok e t2 (show j < ga_tc es by omega)
      refine ⟨es', h0, h1, by omega, h3, h4, h5, fun i hi1 hi2 => ?_⟩
      have hi2 : i < ga_tc es + 1 := hi2
      by_cases hi : i = ga_tc es
      · rw [hi, t1]; omega
      · exact h6 i hi1 (by omega)
/-- a write within the locals of the frame leaves the marks -/
theorem ga_mk_loc {μ ν : Nat → Nat} : ∀ {M : ga_M} {lim f : Nat}, ga_mk μ lim M → ga_top M = some f → (∀ i, (i < f + 8 ∨ f + ga_w μ f ≤ i) → μ i = ν i) → ga_mk ν lim M
  | (true, g) :: es, lim, f, ⟨a, b, c, d, e, h⟩, hf, hc => by
    obtain rfl : g = f := Option.some.inj hf
    have h1 : ga_w μ g = ga_w ν g := ga_w_cong fun i h1 h2 => hc i (by omega)
    have h2 : ga_w μ (g + 4) = ga_w ν (g + 4) := ga_w_cong fun i h1 h2 => hc i (by omega)
    have h3 : ga_rd μ (g - 4) 4 = ga_rd ν (g - 4) 4 := ga_rd_cong fun i h1 h2 => hc i (by omega)
    exact ⟨a, by rw [← h2]; exact b, by rw [← h1, ← h2]; exact c, by rw [← h1]; exact d, by rw [← h3]; exact e, ga_mk_cong h fun i hi => hc i (by omega)⟩
  | (false, t) :: es, lim, f, ⟨a, b, c, d, e⟩, hf, hc => by
    have hlt := ga_mk_top e (show ga_top es = some f from hf)
    have h3 : ga_rd μ (t - 4) 4 = ga_rd ν (t - 4) 4 := ga_rd_cong fun i h1 h2 => hc i (by omega)
    exact ⟨a, b, c, by rw [← h3]; exact d, ga_mk_loc e hf hc⟩
theorem ga_base_ge {μ : Nat → Nat} {M : ga_M} {lim f : Nat} (h : ga_mk μ lim M) (hf : ga_top M = some f) : f + ga_w μ f ≤ ga_base μ M := (ga_mk_top (ga_mk_base h) hf).2.2.2
theorem ga_g1_lt {μ : Nat → Nat} {sp : Nat} {fo : Option Nat} {way addr v : Int32} (h : ∀ i, μ i < 256) : ∀ i, ga_g1 μ sp fo way addr v i < 256 := by
  unfold ga_g1
  split
  · split
    · exact h
    · exact ga_wr_lt h
  · split
    · exact ga_wr_lt h
    · exact h
/-- a value goes: the marks stay -/
theorem ga_g_mk {μ : Nat → Nat} {lim sp : Nat} {M : ga_M} {way addr v : Int32} (h : ga_mk μ lim M) (hl : lim ≤ 1024) (hb : ga_base μ M ≤ sp) (hcg : ga_cg μ way addr (ga_top M) = true) : ga_mk (ga_g1 μ sp (ga_top M) way addr v) (ga_g2 sp way) M := by
  unfold ga_g1 ga_g2
  by_cases h2 : way = nI 2
  · subst h2
    rw [if_pos rfl, if_neg (by decide)]
    cases hf : ga_top M with
    | none => exact ga_mk_low h hb fun _ _ => rfl
    | some f =>
      have hlt := ga_mk_top h hf
      rw [hf] at hcg
      obtain ⟨p, rfl, hp⟩ := ga_il_of (w := 4) (by omega) (by omega) (show ga_il μ f addr (nI 4) = true from hcg)
      dsimp only
      rw [nI_clamp (by omega)]
      have hm2 : ga_mk μ sp M := ga_mk_low h hb fun _ _ => rfl
      exact ga_mk_loc hm2 hf fun i hi => (ga_wr_out (by omega)).symm
  · rw [if_neg h2]
    by_cases h3 : way = nI 3
    · rw [if_pos h3, if_pos h3]
      exact ga_mk_wr h (by omega) hb
    · rw [if_neg h3, if_neg h3]
      exact ga_mk_low h hb fun _ _ => rfl
theorem ga_z_out {μ : Nat → Nat} {a m i : Nat} (h : i < a) : ga_z μ a m i = μ i := by
  unfold ga_z
  rw [if_neg (by omega)]
theorem ga_hd_out {f : ga_F} {μ : Nat → Nat} {sp i : Nat} (h : i < sp) : ga_hd f μ sp i = μ i := by
  unfold ga_hd
  rw [ga_pr_out (by omega), ga_wr_out (by omega), ga_wr_out (by omega), ga_z_out h]
theorem ga_en_low {f : ga_F} {A : Nat → Int32} {m : Nat} {μ : Nat → Nat} {sp i : Nat} (hw : ga_wf f) (h : i < sp + 8) : ga_en f A m μ sp i = ga_hd f μ sp i := by
  have h1 := ga_len_ge hw
  have h2 := ga_lb_ge (f := f)
  unfold ga_en
  split
  · rw [ga_wr_out (by omega), ga_ws_out (by omega)]
  · exact ga_sl_low (by omega)
theorem ga_en_lt {f : ga_F} {A : Nat → Int32} {m : Nat} {μ : Nat → Nat} {sp : Nat} (hw : ga_wf f) (h : ∀ i, μ i < 256) : ∀ i, ga_en f A m μ sp i < 256 := by
  unfold ga_en
  split
  · exact ga_wr_lt (ga_ws_lt (ga_hd_lt hw h) _)
  · exact ga_sl_lt (ga_hd_lt hw h) _
/-- a frame entered is a mark -/
theorem ga_en_mk {f : ga_F} {A : Nat → Int32} {m : Nat} {μ : Nat → Nat} {sp : Nat} {M : ga_M} (hw : ga_wf f) (h16 : 16 ≤ sp) (hrd : ga_rd μ (sp - 4) 4 = ga_fp (ga_top M)) (h : ga_mk μ (sp - 16) M) : ga_mk (ga_en f A m μ sp) (sp + ga_room f m) ((true, sp) :: M) := by
  have h1 := ga_len_ge hw
  have h2 := ga_lb_ge (f := f)
  have h4 := ga_lb4 f
  have hr : ga_len f ≤ ga_room f m := Nat.le_add_right _ _
  have w1 : ga_w (ga_en f A m μ sp) sp = ga_len f := by rw [← (ga_hd_w (μ := μ) (sp := sp) hw).1]; exact ga_w_cong fun i a b => ga_en_low hw (by omega)
  have w2 : ga_w (ga_en f A m μ sp) (sp + 4) = ga_lb f := by rw [← (ga_hd_w (μ := μ) (sp := sp) hw).2]; exact ga_w_cong fun i a b => ga_en_low hw (by omega)
  have hlow : ∀ i, i < sp → ga_en f A m μ sp i = μ i := fun i hi => by rw [ga_en_low hw (by omega), ga_hd_out hi]
  refine ⟨h16, by rw [w2]; omega, by rw [w1, w2]; exact h1, by rw [w1]; omega, ?_, ga_mk_cong h fun i hi => (hlow i (by omega)).symm⟩
  rw [← hrd]
  exact ga_rd_cong fun i a b => hlow i (by omega)
theorem ga_st_fp {μ : Nat → Nat} {sp : Nat} {way addr p fp : Int32} : ga_rd (ga_st μ sp way addr p fp) (sp + 12) 4 = fp := ga_rd_wr _ _ _
theorem ga_tk_cong {tk tk' : Nat → Nat} : ∀ {M : ga_M}, ga_tk tk M → (∀ i, i < ga_tc M → tk i = tk' i) → ga_tk tk' M
  | [], _, _ => trivial
  | (true, _) :: es, h, hc => ga_tk_cong (M := es) h hc
  | (false, t) :: es, ⟨a, b⟩, hc => ⟨by rw [← hc _ (Nat.lt_succ_self _)]; exact a, ga_tk_cong b fun i hi => hc i (Nat.lt_succ_of_lt hi)⟩
section GSM
variable {LL : Nat} {xs : Nat → Int32} {n : Nat} {μ : Nat → Nat} {sp : Nat} {pc lp : Int32} {cl : Nat → Int32} {tk : Nat → Nat} {F : Nat → ga_F} {tn gv : Nat → Int32} {M : ga_M} {zG zM : Nat} {av : List Value}
theorem ga_same {r : Int32} (hI : ga_I n μ sp M tk F) (hG : ∀ tl, gx_call LL xs 8 zG 0 0 (.ref 0 :: av) (gc_h n μ sp (ga_top M) pc lp cl tk (ga_tc M) F tn tl) (fun r' h => r' = some (.int r) ∧ h = (gc_h n μ sp (ga_top M) pc lp cl tk (ga_tc M) F tn tl))) (hM : ∀ pre, gx_call LL xs 8 zM 0 0 (.ref 43 :: av) (gm_h pre n μ sp (ga_top M) pc lp cl tk (ga_tc M) F gv) (fun r' h => r' = some (.int r) ∧ h = (gm_h pre n μ sp (ga_top M) pc lp cl tk (ga_tc M) F gv))) : ga_S LL xs zG zM av n μ sp M pc lp cl tk F tn gv :=
  ⟨r, μ, sp, M, pc, lp, cl, tk, F, tn, gv, hI, hG, hM⟩
theorem s_function (hI : ga_I n μ sp M tk F) (x hd : Int32) : ga_S LL xs z_G_function z_M_function [.int x, .int hd] n μ sp M pc lp cl tk F tn gv := by
  by_cases h : (x < 0 ∨ nI 12 ≤ x) ∨ hd < 0 ∨ nI 255 < hd
  · exact ga_same hI (fun tl => k_G_function_n x hd h) (fun pre => m_function_n x hd h)
  · obtain ⟨k, hk, rfl⟩ := ga_k12 (fun z => h (Or.inl z))
    obtain ⟨j, hj, rfl⟩ := ga_jc (by decide) (fun z => h (Or.inr z))
    obtain ⟨i1, i2, i3, i4, i5, i6, i7⟩ := hI
    have hwk := i7 k hk
    exact ⟨_, _, _, _, _, _, _, _, va_up F k (j, (F k).2.1, 0, (F k).2.2.2.1, (F k).2.2.2.2), _, _, ⟨i1, i2, i3, i4, i5, i6, ga_up_wf i7 ⟨hj, hwk.2.1, Nat.zero_le _, fun i hi => absurd hi (Nat.not_lt_zero i)⟩⟩, fun tl => k_G_function hk hj, fun pre => m_function hk hj⟩
theorem s_format (hI : ga_I n μ sp M tk F) (x w c : Int32) : ga_S LL xs z_G_format z_M_format [.int x, .int w, .int c] n μ sp M pc lp cl tk F tn gv := by
  by_cases h : (x < 0 ∨ nI 12 ≤ x) ∨ ¬ (w = nI 1 ∨ w = nI 2 ∨ w = nI 4) ∨ c < nI 1 ∨ nI 255 < c
  · exact ga_same hI (fun tl => k_G_format_n x w c h) (fun pre => m_format_n x w c h)
  · obtain ⟨k, hk, rfl⟩ := ga_k12 (fun z => h (Or.inl z))
    have hw : w = nI 1 ∨ w = nI 2 ∨ w = nI 4 := Classical.byContradiction fun z => h (Or.inr (Or.inl z))
    obtain ⟨v, rfl, hv⟩ : ∃ v, w = nI v ∧ (v = 1 ∨ v = 2 ∨ v = 4) := by
      rcases hw with rfl | rfl | rfl
      · exact ⟨1, rfl, by omega⟩
      · exact ⟨2, rfl, by omega⟩
      · exact ⟨4, rfl, by omega⟩
    have hc1 : ¬ c < nI 1 := fun z => h (Or.inr (Or.inr (Or.inl z)))
    obtain ⟨j, hj, rfl⟩ := ga_jc (x := c) (c := 255) (by decide) (by
      rintro (z | z)
      · refine hc1 ?_
        rw [Int32.lt_iff_toInt_lt, Int32.toInt_zero] at z
        rw [Int32.lt_iff_toInt_lt, nI_toInt (by decide)]
        omega
      · exact h (Or.inr (Or.inr (Or.inr z))))
    have hj1 : 1 ≤ j := by
      rcases Nat.lt_or_ge j 1 with z | z
      · exact absurd (nI_lt z (by decide)) hc1
      · exact z
    obtain ⟨i1, i2, i3, i4, i5, i6, i7⟩ := hI
    have hwk := i7 k hk
    refine ⟨_, _, _, _, _, _, _, _, _, _, _, ⟨i1, i2, i3, i4, i5, i6, ?_⟩, fun tl => k_G_format hk hv hj1 hj hwk.2.2.1, fun pre => m_format hk hv hj1 hj hwk.2.2.1⟩
    by_cases h6 : (F k).2.2.1 < 6
    · rw [if_pos h6]
      refine ga_up_wf i7 ⟨hwk.1, hwk.2.1, h6, fun i hi => ?_⟩
      dsimp only at hi ⊢
      unfold va_up
      by_cases e : i = (F k).2.2.1
      · rw [if_pos e, if_pos e]
        exact ⟨hv, hj1, hj⟩
      · rw [if_neg e, if_neg e]
        exact hwk.2.2.2 i (by omega)
    · rw [if_neg h6]
      exact i7
theorem s_accelerate (hI : ga_I n μ sp M tk F) (x c : Int32) : ga_S LL xs z_G_accelerate z_M_accelerate [.int x, .int c] n μ sp M pc lp cl tk F tn gv := by
  by_cases h : (x < 0 ∨ nI 12 ≤ x) ∨ c < 0 ∨ nI 3 < c
  · exact ga_same hI (fun tl => k_G_accelerate_n x c h) (fun pre => m_accelerate_n x c h)
  · obtain ⟨k, hk, rfl⟩ := ga_k12 (fun z => h (Or.inl z))
    obtain ⟨j, hj, rfl⟩ := ga_jc (by decide) (fun z => h (Or.inr z))
    obtain ⟨i1, i2, i3, i4, i5, i6, i7⟩ := hI
    have hwk := i7 k hk
    exact ⟨_, _, _, _, _, _, _, _, va_up F k ((F k).1, j, (F k).2.2.1, (F k).2.2.2.1, (F k).2.2.2.2), _, _, ⟨i1, i2, i3, i4, i5, i6, ga_up_wf i7 ⟨hwk.1, hj, hwk.2.2⟩⟩, fun tl => k_G_accelerate hk hj, fun pre => m_accelerate hk hj⟩
theorem s_told (hI : ga_I n μ sp M tk F) (x w : Int32) : ga_S LL xs z_G_told z_M_told [.int x, .int w] n μ sp M pc lp cl tk F tn gv := by
  by_cases h : x < 0 ∨ nI 12 ≤ x
  · exact ga_same hI (fun tl => k_G_told_n x w h) (fun pre => m_told_n x w h)
  · obtain ⟨k, hk, rfl⟩ := ga_k12 h
    have hwk := hI.2.2.2.2.2.2 k hk
    exact ga_same hI (fun tl => k_G_told w hk hwk) (fun pre => m_told w hk hwk)
theorem s_local (hI : ga_I n μ sp M tk F) (x q : Int32) : ga_S LL xs z_G_local z_M_local [.int x, .int q] n μ sp M pc lp cl tk F tn gv := by
  by_cases h : x < 0 ∨ nI 12 ≤ x
  · exact ga_same hI (fun tl => k_G_local_n x q h) (fun pre => m_local_n x q h)
  · obtain ⟨k, hk, rfl⟩ := ga_k12 h
    have hwk := hI.2.2.2.2.2.2 k hk
    by_cases hq : q < 0
    · exact ga_same hI (fun tl => k_G_local_m q hk hq) (fun pre => m_local_m q hk hwk hq)
    · obtain ⟨j, hj, rfl⟩ := nI_of hq
      exact ga_same hI (fun tl => k_G_local hk hwk hj) (fun pre => m_local hk hwk hj)
theorem s_popped (hI : ga_I n μ sp M tk F) : ga_S LL xs z_G_popped z_M_popped [] n μ sp M pc lp cl tk F tn gv :=
  ga_same hI (fun tl => k_G_popped) (fun pre => m_popped)
theorem s_count (hI : ga_I n μ sp M tk F) (x : Int32) : ga_S LL xs z_G_count z_M_count [.int x] n μ sp M pc lp cl tk F tn gv := by
  obtain ⟨i1, i2, i3, i4, i5, i6, i7⟩ := hI
  exact ga_same ⟨i1, i2, i3, i4, i5, i6, i7⟩ (fun tl => k_G_count x i5 i6 i3 i2 i4) (fun pre => m_count x i5 i6 (by omega))
theorem s_cell (hI : ga_I n μ sp M tk F) (x : Int32) : ga_S LL xs z_G_cell z_M_cell [.int x] n μ sp M pc lp cl tk F tn gv := by
  rcases pk_ix x (n := 16) (by decide) with c | c | ⟨j, hj, rfl⟩
  · exact ga_same hI (fun tl => k_G_cell_n x (Or.inl c)) (fun pre => m_cell_n x (Or.inl c))
  · exact ga_same hI (fun tl => k_G_cell_n x (Or.inr c)) (fun pre => m_cell_n x (Or.inr c))
  · exact ga_same hI (fun tl => k_G_cell hj) (fun pre => m_cell hj)
theorem s_byteAt (hI : ga_I n μ sp M tk F) (x : Int32) : ga_S LL xs z_G_byteAt z_M_byteAt [.int x] n μ sp M pc lp cl tk F tn gv := by
  obtain ⟨i1, i2, i3, i4, i5, i6, i7⟩ := hI
  have hI : ga_I n μ sp M tk F := ⟨i1, i2, i3, i4, i5, i6, i7⟩
  rcases pk_ix x (n := sp) (by omega) with c | c | ⟨j, hj, rfl⟩
  · exact ga_same hI (fun tl => k_G_byteAt_n x (Or.inl c)) (fun pre => m_byteAt_n x (by omega) (Or.inl c))
  · exact ga_same hI (fun tl => k_G_byteAt_n x (Or.inr c)) (fun pre => m_byteAt_n x (by omega) (Or.inr c))
  · exact ga_same hI (fun tl => k_G_byteAt hj i3 i2 i4) (fun pre => m_byteAt hj (by omega))
theorem s_push (hI : ga_I n μ sp M tk F) (v : Int32) : ga_S LL xs z_G_push z_M_push [.int v] n μ sp M pc lp cl tk F tn gv := by
  obtain ⟨i1, i2, i3, i4, i5, i6, i7⟩ := hI
  have hI : ga_I n μ sp M tk F := ⟨i1, i2, i3, i4, i5, i6, i7⟩
  cases hf : ga_top M with
  | none => exact ga_same hI (fun tl => by rw [hf]; exact k_G_push_n v) (fun pre => by rw [hf]; exact m_push_n v)
  | some f =>
    have hlt := ga_top_lt i5 hf
    by_cases h : n < sp + 4
    · exact ga_same hI (fun tl => by rw [hf]; exact k_G_push_f v (by omega) i3 i2 h) (fun pre => by rw [hf]; exact m_push_f v (by omega) i3 i2 h)
    · exact ⟨_, _, _, M, _, _, _, _, _, _, _, ⟨i1, i2, by omega, ga_wr_lt i4, ga_mk_wr i5 (by have := ga_base_le i5; omega) (ga_base_le i5), i6, i7⟩, fun tl => k_G_push v i5 i6 i2 i4 hf (by omega), fun pre => m_push v i5 i6 i2 hf (by omega)⟩
theorem s_pop (hI : ga_I n μ sp M tk F) : ga_S LL xs z_G_pop z_M_pop [] n μ sp M pc lp cl tk F tn gv := by
  obtain ⟨i1, i2, i3, i4, i5, i6, i7⟩ := hI
  have hI : ga_I n μ sp M tk F := ⟨i1, i2, i3, i4, i5, i6, i7⟩
  by_cases h0 : ga_e μ sp M (nI 1) = nI 0
  · have hvl := ga_vc_le i5
    obtain ⟨m, f, hm, hm2, hf⟩ := ga_e0 (by omega) h0
    have hm1 : 1 ≤ ga_vc μ sp M := by
      have hy := h0
      rw [ga_e_s (by decide) hf] at hy
      rcases Nat.lt_or_ge (ga_vc μ sp M) 1 with c | c
      · rw [if_pos (nI_lt c (by decide))] at hy
        exact absurd hy (by decide)
      · exact c
    exact ⟨_, _, _, M, _, _, _, _, _, _, _, ⟨i1, i2, by omega, i4, ga_mk_low i5 (by omega) fun _ _ => rfl, i6, i7⟩, fun tl => k_G_pop i5 i6 i3 i2 i4 h0, fun pre => m_pop i5 i6 (by omega) h0⟩
  · exact ga_same hI (fun tl => k_G_pop_e i5 i6 i3 i2 i4 rfl h0) (fun pre => m_pop_e i5 i6 (by omega) rfl h0)
theorem s_peek (hI : ga_I n μ sp M tk F) (x : Int32) : ga_S LL xs z_G_peek z_M_peek [.int x] n μ sp M pc lp cl tk F tn gv := by
  obtain ⟨i1, i2, i3, i4, i5, i6, i7⟩ := hI
  have hI : ga_I n μ sp M tk F := ⟨i1, i2, i3, i4, i5, i6, i7⟩
  have hvl := ga_vc_le i5
  cases hf : ga_top M with
  | none => exact ga_same hI (fun tl => by rw [hf]; exact k_G_peek_n x) (fun pre => by rw [hf]; exact m_peek_n x)
  | some f =>
    rcases pk_ix x (n := ga_vc μ sp M) (by omega) with c | c | ⟨j, hj, rfl⟩
    · exact ga_same hI (fun tl => k_G_peek_e x i5 i6 i3 i2 i4 hf (Or.inl c)) (fun pre => m_peek_e x i5 i6 (by omega) hf (Or.inl c))
    · exact ga_same hI (fun tl => k_G_peek_e x i5 i6 i3 i2 i4 hf (Or.inr c)) (fun pre => m_peek_e x i5 i6 (by omega) hf (Or.inr c))
    · exact ⟨_, _, _, M, _, _, _, _, _, _, _, hI, fun tl => k_G_peek i5 i6 i3 i2 i4 hf hj, fun pre => m_peek i5 i6 (by omega) hf hj⟩
theorem s_copy (hI : ga_I n μ sp M tk F) (x : Int32) : ga_S LL xs z_G_copy z_M_copy [.int x] n μ sp M pc lp cl tk F tn gv := by
  obtain ⟨i1, i2, i3, i4, i5, i6, i7⟩ := hI
  have hI : ga_I n μ sp M tk F := ⟨i1, i2, i3, i4, i5, i6, i7⟩
  by_cases h0 : ga_e μ sp M x = nI 0
  · have hvl := ga_vc_le i5
    have hb := ga_base_le i5
    obtain ⟨m, f, rfl, hm2, hf⟩ := ga_e0 (by omega) h0
    by_cases h : n < sp + 4 * m
    · exact ga_same hI (fun tl => k_G_copy_f i5 i6 i3 i2 i4 h0 hm2 h) (fun pre => m_copy_f i5 i6 i3 i2 hf hm2 h)
    · exact ⟨_, _, _, M, _, _, _, _, _, _, _, ⟨i1, i2, by omega, ga_cp_lt i4 m, ga_mk_low i5 (by omega) fun j hj => (ga_cp_low (by omega)).symm, i6, i7⟩, fun tl => k_G_copy i5 i6 i2 i4 h0 hm2 (by omega), fun pre => m_copy i5 i6 i2 hf hm2 (by omega)⟩
  · exact ga_same hI (fun tl => k_G_copy_e x i5 i6 i3 i2 i4 rfl h0) (fun pre => m_copy_e x i5 i6 (by omega) rfl h0)
theorem s_roll (hI : ga_I n μ sp M tk F) (x b : Int32) : ga_S LL xs z_G_roll z_M_roll [.int x, .int b] n μ sp M pc lp cl tk F tn gv := by
  obtain ⟨i1, i2, i3, i4, i5, i6, i7⟩ := hI
  have hI : ga_I n μ sp M tk F := ⟨i1, i2, i3, i4, i5, i6, i7⟩
  by_cases h0 : ga_e μ sp M x = nI 0
  · have hvl := ga_vc_le i5
    have hb := ga_base_le i5
    obtain ⟨m, f, rfl, hm2, hf⟩ := ga_e0 (by omega) h0
    by_cases h : m = 0
    · subst h
      exact ga_same hI (fun tl => k_G_roll_0 b i5 i6 i3 i2 i4 h0) (fun pre => m_roll_0 b i5 i6 (by omega) hf)
    · exact ⟨_, _, _, M, _, _, _, _, _, _, _, ⟨i1, i2, by omega, ga_ws_lt i4 m, ga_mk_low i5 (by omega) fun j hj => (ga_ws_out (by omega)).symm, i6, i7⟩, fun tl => k_G_roll b (by omega) i5 i6 i3 i2 i4 hm2 h0, fun pre => m_roll b (by omega) i5 i6 (by omega) hf hm2⟩
  · exact ga_same hI (fun tl => k_G_roll_e x b i5 i6 i3 i2 i4 rfl h0) (fun pre => m_roll_e x b i5 i6 (by omega) rfl h0)
theorem s_swap (hI : ga_I n μ sp M tk F) : ga_S LL xs z_G_swap z_M_swap [] n μ sp M pc lp cl tk F tn gv := by
  obtain ⟨i1, i2, i3, i4, i5, i6, i7⟩ := hI
  have hI : ga_I n μ sp M tk F := ⟨i1, i2, i3, i4, i5, i6, i7⟩
  by_cases h0 : ga_e μ sp M (nI 2) = nI 0
  · have hvl := ga_vc_le i5
    have hb := ga_base_le i5
    obtain ⟨m, f, hm, hm2, hf⟩ := ga_e0 (by omega) h0
    have hm1 : 2 ≤ ga_vc μ sp M := by
      have hy := h0
      rw [ga_e_s (by decide) hf] at hy
      rcases Nat.lt_or_ge (ga_vc μ sp M) 2 with c | c
      · rw [if_pos (nI_lt c (by decide))] at hy
        exact absurd hy (by decide)
      · exact c
    exact ⟨_, _, _, M, _, _, _, _, _, _, _, ⟨i1, i2, by omega, ga_ws_lt i4 2, ga_mk_low i5 (by omega) fun j hj => (ga_ws_out (by omega)).symm, i6, i7⟩, fun tl => k_G_swap i5 i6 i3 i2 i4 hm1 h0, fun pre => m_swap i5 i6 (by omega) hf hm1⟩
  · exact ga_same hI (fun tl => k_G_swap_e i5 i6 i3 i2 i4 rfl h0) (fun pre => m_swap_e i5 i6 (by omega) rfl h0)
theorem s_load (hI : ga_I n μ sp M tk F) (x w : Int32) : ga_S LL xs z_G_load z_M_load [.int x, .int w] n μ sp M pc lp cl tk F tn gv := by
  obtain ⟨i1, i2, i3, i4, i5, i6, i7⟩ := hI
  have hI : ga_I n μ sp M tk F := ⟨i1, i2, i3, i4, i5, i6, i7⟩
  by_cases h0 : ga_el μ M x w = nI 0
  · obtain ⟨f, p, v, hf, rfl, rfl, hv, hp⟩ := ga_el0 (fun f hf => by have := ga_mk_top i5 hf; omega) h0
    exact ⟨_, _, _, M, _, _, _, _, _, _, _, hI, fun tl => k_G_load i5 i3 i2 i4 h0 hf (by omega) hp, fun pre => m_load i5 (by omega) h0 hf (by omega) hp⟩
  · exact ga_same hI (fun tl => k_G_load_e x w i5 i3 i2 i4 rfl h0) (fun pre => m_load_e x w i5 (by omega) rfl h0)
theorem s_store (hI : ga_I n μ sp M tk F) (x w y : Int32) : ga_S LL xs z_G_store z_M_store [.int x, .int w, .int y] n μ sp M pc lp cl tk F tn gv := by
  obtain ⟨i1, i2, i3, i4, i5, i6, i7⟩ := hI
  have hI : ga_I n μ sp M tk F := ⟨i1, i2, i3, i4, i5, i6, i7⟩
  by_cases h0 : ga_el μ M x w = nI 0
  · obtain ⟨f, p, v, hf, rfl, rfl, hv, hp⟩ := ga_el0 (fun f hf => by have := ga_mk_top i5 hf; omega) h0
    have hlt := ga_mk_top i5 hf
    exact ⟨_, _, _, M, _, _, _, _, _, _, _, ⟨i1, i2, i3, ga_wr_lt i4, ga_mk_loc i5 hf fun i hi => (ga_wr_out (by omega)).symm, i6, i7⟩, fun tl => k_G_store y i5 i3 i2 i4 h0 hf (by omega) hp, fun pre => m_store y i5 (by omega) h0 hf (by omega) hp⟩
  · exact ga_same hI (fun tl => k_G_store_e x w y i5 i3 i2 i4 rfl h0) (fun pre => m_store_e x w y i5 (by omega) rfl h0)
end GSM
