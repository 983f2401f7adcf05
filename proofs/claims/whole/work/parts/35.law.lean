/-! The law: both go through the script. -/
def gm_t (n : Nat) (μ : Nat → Nat) (sp : Nat) (fo : Option Nat) (pc lp : Int32) (cl : Nat → Int32) (tk : Nat → Nat) (tc : Nat) (F : Nat → ga_F) (gv : Nat → Int32) : gx_H :=
  [.inr (.inr (3, [.int (nI n), .ref 44, .int (nI sp), .int (ga_fp fo), .int pc, .ref 45, .ref 46, .ref 47, .ref 48, .ref 49, .ref 50, .ref 51, .int (nI tc), .int lp, .ref 52])),
    .inl (0, 1024, fun i => nI (μ i)), .inl (0, 16, cl), .inl (0, 12, fun f => nI (F f).1), .inl (0, 12, fun f => nI (F f).2.2.1), .inl (0, 72, fun i => nI ((F (i / 6)).2.2.2.1 (i % 6))), .inl (0, 72, fun i => nI ((F (i / 6)).2.2.2.2 (i % 6))), .inl (0, 12, fun f => nI (F f).2.1), .inl (0, 64, fun i => nI (tk i)), .inl (0, 256, gv)]
def ga_pre (n : Nat) (μ : Nat → Nat) (sp : Nat) (fo : Option Nat) (pc lp : Int32) (cl : Nat → Int32) (tk : Nat → Nat) (tc : Nat) (F : Nat → ga_F) (tn : Nat → Int32) : Nat → gx_A := fun i => (gc_h n μ sp fo pc lp cl tk tc F tn []).getD i (.inl (0, 0, fun _ => 0))
theorem ga_join {n : Nat} {μ : Nat → Nat} {sp : Nat} {fo : Option Nat} {pc lp : Int32} {cl : Nat → Int32} {tk : Nat → Nat} {tc : Nat} {F : Nat → ga_F} {tn : Nat → Int32} {n2 : Nat} {μ2 : Nat → Nat} {sp2 : Nat} {fo2 : Option Nat} {pc2 lp2 : Int32} {cl2 : Nat → Int32} {tk2 : Nat → Nat} {tc2 : Nat} {F2 : Nat → ga_F} {gv2 : Nat → Int32} :
    gc_h n μ sp fo pc lp cl tk tc F tn (gm_t n2 μ2 sp2 fo2 pc2 lp2 cl2 tk2 tc2 F2 gv2) = gm_h (ga_pre n μ sp fo pc lp cl tk tc F tn) n2 μ2 sp2 fo2 pc2 lp2 cl2 tk2 tc2 F2 gv2 := rfl
section GLW
variable {LL : Nat} {xs : Nat → Int32} {n : Nat}
def ga_X (n : Nat) (μ : Nat → Nat) (sp : Nat) (M : ga_M) (pc lp : Int32) (cl : Nat → Int32) (tk : Nat → Nat) (F : Nat → ga_F) (tn gv : Nat → Int32) : gx_H := gc_h n μ sp (ga_top M) pc lp cl tk (ga_tc M) F tn (gm_t n μ sp (ga_top M) pc lp cl tk (ga_tc M) F gv)
theorem ga_step {zG zM : Nat} {av : List Value} {μ : Nat → Nat} {sp : Nat} {M : ga_M} {pc lp : Int32} {cl : Nat → Int32} {tk : Nat → Nat} {F : Nat → ga_F} {tn gv : Nat → Int32} (h : ga_S LL xs zG zM av n μ sp M pc lp cl tk F tn gv) :
    ∃ (r : Int32) (h1 : gx_H) (μ' : Nat → Nat) (sp' : Nat) (M' : ga_M) (pc' lp' : Int32) (cl' : Nat → Int32) (tk' : Nat → Nat) (F' : Nat → ga_F) (tn' gv' : Nat → Int32), ga_I n μ' sp' M' tk' F' ∧
    gx_call LL xs 8 zG 0 0 (.ref 0 :: av) (ga_X n μ sp M pc lp cl tk F tn gv) (fun r' h => r' = some (.int r) ∧ h = h1) ∧ gx_call LL xs 8 zM 0 0 (.ref 43 :: av) h1 (fun r' h => r' = some (.int r) ∧ h = ga_X n μ' sp' M' pc' lp' cl' tk' F' tn' gv') ∧ ∃ fs, h1[43]? = some (.inr (.inr (3, fs))) := by
  obtain ⟨r, μ', sp', M', pc', lp', cl', tk', F', tn', gv', hI', hG, hM⟩ := h
  have hM := hM (ga_pre n μ' sp' (ga_top M') pc' lp' cl' tk' (ga_tc M') F' tn')
  rw [← ga_join, ← ga_join] at hM
  exact ⟨r, _, μ', sp', M', pc', lp', cl', tk', F', tn', gv', hI', hG _, hM, ⟨_, rfl⟩⟩
set_option maxRecDepth 100000 in
theorem law_l (hLL : LL ≤ 3073) : ∀ (q i : Nat) (μ : Nat → Nat) (sp : Nat) (M : ga_M) (pc lp : Int32) (cl : Nat → Int32) (tk : Nat → Nat) (F : Nat → ga_F) (tn gv : Nat → Int32) (cb sb : Nat), LL < i + 6 * (q + 1) → i ≤ 4000 → ga_I n μ sp M tk F →
    gx_E LL xs (gx_call LL xs 8) cd_L_law (fun r _ => r = some (.int (nI 1))) 16 [some (.retAddr 0), some (.ref 0), some (.ref 43), some (.int (nI i))] [] (ga_X n μ sp M pc lp cl tk F tn gv) cb sb := by
  intro q
  have hend : ∀ (i : Nat) (h : gx_H) (cb sb : Nat), LL < i + 6 → i ≤ 4000 → gx_E LL xs (gx_call LL xs 8) cd_L_law (fun r _ => r = some (.int (nI 1))) 16 [some (.retAddr 0), some (.ref 0), some (.ref 43), some (.int (nI i))] [] h cb sb := by
    intro i h cb sb hi hi2
    refine gx_run 6 (And.intro (fun _ => gx_run 2 (And.intro (Or.inr rfl) rfl)) (fun c => absurd ?_ c))
    show nI LL - nI 6 < nI i
    rw [Int32.lt_iff_toInt_lt, nI_toInt (by omega), pk_sub_toInt (by omega) (by decide)]
    omega
  induction q with
  | zero =>
    intro i μ sp M pc lp cl tk F tn gv cb sb hi hi2 hI
    exact hend i _ cb sb (by omega) hi2
  | succ q ih =>
    intro i μ sp M pc lp cl tk F tn gv cb sb hi hi2 hI
    by_cases hx : LL < i + 6
    · exact hend i _ cb sb hx hi2
    have hnext : ∀ (μ : Nat → Nat) (sp : Nat) (M : ga_M) (pc lp : Int32) (cl : Nat → Int32) (tk : Nat → Nat) (F : Nat → ga_F) (tn gv : Nat → Int32), ga_I n μ sp M tk F → gx_E LL xs (gx_call LL xs 8) cd_L_law (fun r _ => r = some (.int (nI 1))) 552 [some (.retAddr 0), some (.ref 0), some (.ref 43), some (.int (nI i))] [] (ga_X n μ sp M pc lp cl tk F tn gv) cb sb := by
      intro μ sp M pc lp cl tk F tn gv hI
      have h9 := ih (i + 6) μ sp M pc lp cl tk F tn gv cb sb (by omega) (by omega) hI
      rw [← nI_add i 6] at h9
      exact gx_run 2 h9
    have hc0 : ¬ nI LL - nI 6 < nI i := by
      rw [Int32.lt_iff_toInt_lt, nI_toInt (by omega), pk_sub_toInt (by omega) (by decide)]
      omega
    refine gx_run 6 (And.intro (fun c => absurd c hc0) (fun _ => gx_run 6 (gx_ar i rfl (by omega) (by omega) ?_)))
    refine And.intro (fun _ => hnext _ _ _ _ _ _ _ _ _ _ hI) (And.intro (fun _ => ?_) (And.intro (fun _ => ?_) (And.intro (fun _ => ?_) (And.intro (fun _ => ?_) (And.intro (fun _ => ?_) (And.intro (fun _ => ?_) (And.intro (fun _ => ?_) (And.intro (fun _ => ?_) (And.intro (fun _ => ?_) (And.intro (fun _ => ?_) (And.intro (fun _ => ?_) (And.intro (fun _ => ?_) (And.intro (fun _ => ?_) (And.intro (fun _ => ?_) (And.intro (fun _ => ?_) (And.intro (fun _ => ?_) (And.intro (fun _ => ?_) (And.intro (fun _ => ?_) (And.intro (fun _ => ?_) (And.intro (fun _ => ?_) (And.intro (fun _ => ?_) (And.intro (fun _ => ?_) (trivial)))))))))))))))))))))))
    · obtain ⟨r, h1, μ', sp', M', pc', lp', cl', tk', F', tn', gv', hI', hG, hM, hO⟩ := ga_step (s_function (LL := LL) (xs := xs) (pc := pc) (lp := lp) (cl := cl) (tn := tn) (gv := gv) hI (xs (i + 1)) (xs (i + 2)))
      exact gx_run 25 (gx_ar (i + 1) (nI_add i 1) (by omega) (by omega) (gx_ar (i + 2) (nI_add i 2) (by omega) (by omega) (And.intro ⟨_, rfl⟩ (gx_c1 (gx_le8 rfl) hG (gx_ar (i + 1) (nI_add i 1) (by omega) (by omega) (gx_ar (i + 2) (nI_add i 2) (by omega) (by omega) (And.intro hO (gx_c1 (gx_le8 rfl) hM (And.intro (fun _ => hnext _ _ _ _ _ _ _ _ _ _ hI') (fun c => absurd rfl c))))))))))
    · obtain ⟨r, h1, μ', sp', M', pc', lp', cl', tk', F', tn', gv', hI', hG, hM, hO⟩ := ga_step (s_format (LL := LL) (xs := xs) (pc := pc) (lp := lp) (cl := cl) (tn := tn) (gv := gv) hI (xs (i + 1)) (xs (i + 2)) (xs (i + 3)))
      exact gx_run 35 (gx_ar (i + 1) (nI_add i 1) (by omega) (by omega) (gx_ar (i + 2) (nI_add i 2) (by omega) (by omega) (gx_ar (i + 3) (nI_add i 3) (by omega) (by omega) (And.intro ⟨_, rfl⟩ (gx_c1 (gx_le8 rfl) hG (gx_ar (i + 1) (nI_add i 1) (by omega) (by omega) (gx_ar (i + 2) (nI_add i 2) (by omega) (by omega) (gx_ar (i + 3) (nI_add i 3) (by omega) (by omega) (And.intro hO (gx_c1 (gx_le8 rfl) hM (And.intro (fun _ => hnext _ _ _ _ _ _ _ _ _ _ hI') (fun c => absurd rfl c))))))))))))
    · obtain ⟨r, h1, μ', sp', M', pc', lp', cl', tk', F', tn', gv', hI', hG, hM, hO⟩ := ga_step (s_accelerate (LL := LL) (xs := xs) (pc := pc) (lp := lp) (cl := cl) (tn := tn) (gv := gv) hI (xs (i + 1)) (xs (i + 2)))
      exact gx_run 25 (gx_ar (i + 1) (nI_add i 1) (by omega) (by omega) (gx_ar (i + 2) (nI_add i 2) (by omega) (by omega) (And.intro ⟨_, rfl⟩ (gx_c1 (gx_le8 rfl) hG (gx_ar (i + 1) (nI_add i 1) (by omega) (by omega) (gx_ar (i + 2) (nI_add i 2) (by omega) (by omega) (And.intro hO (gx_c1 (gx_le8 rfl) hM (And.intro (fun _ => hnext _ _ _ _ _ _ _ _ _ _ hI') (fun c => absurd rfl c))))))))))
    · obtain ⟨r, h1, μ', sp', M', pc', lp', cl', tk', F', tn', gv', hI', hG, hM, hO⟩ := ga_step (s_told (LL := LL) (xs := xs) (pc := pc) (lp := lp) (cl := cl) (tn := tn) (gv := gv) hI (xs (i + 1)) (xs (i + 2)))
      exact gx_run 25 (gx_ar (i + 1) (nI_add i 1) (by omega) (by omega) (gx_ar (i + 2) (nI_add i 2) (by omega) (by omega) (And.intro ⟨_, rfl⟩ (gx_c1 (gx_le8 rfl) hG (gx_ar (i + 1) (nI_add i 1) (by omega) (by omega) (gx_ar (i + 2) (nI_add i 2) (by omega) (by omega) (And.intro hO (gx_c1 (gx_le8 rfl) hM (And.intro (fun _ => hnext _ _ _ _ _ _ _ _ _ _ hI') (fun c => absurd rfl c))))))))))
    · obtain ⟨r, h1, μ', sp', M', pc', lp', cl', tk', F', tn', gv', hI', hG, hM, hO⟩ := ga_step (s_local (LL := LL) (xs := xs) (pc := pc) (lp := lp) (cl := cl) (tn := tn) (gv := gv) hI (xs (i + 1)) (xs (i + 2)))
      exact gx_run 25 (gx_ar (i + 1) (nI_add i 1) (by omega) (by omega) (gx_ar (i + 2) (nI_add i 2) (by omega) (by omega) (And.intro ⟨_, rfl⟩ (gx_c1 (gx_le8 rfl) hG (gx_ar (i + 1) (nI_add i 1) (by omega) (by omega) (gx_ar (i + 2) (nI_add i 2) (by omega) (by omega) (And.intro hO (gx_c1 (gx_le8 rfl) hM (And.intro (fun _ => hnext _ _ _ _ _ _ _ _ _ _ hI') (fun c => absurd rfl c))))))))))
    · obtain ⟨r, h1, μ', sp', M', pc', lp', cl', tk', F', tn', gv', hI', hG, hM, hO⟩ := ga_step (s_call (LL := LL) (xs := xs) (pc := pc) (lp := lp) (cl := cl) (tn := tn) (gv := gv) hI (xs (i + 1)) (xs (i + 2)) (xs (i + 3)) (xs (i + 4)) (xs (i + 5)))
      exact gx_run 55 (gx_ar (i + 1) (nI_add i 1) (by omega) (by omega) (gx_ar (i + 2) (nI_add i 2) (by omega) (by omega) (gx_ar (i + 3) (nI_add i 3) (by omega) (by omega) (gx_ar (i + 4) (nI_add i 4) (by omega) (by omega) (gx_ar (i + 5) (nI_add i 5) (by omega) (by omega) (And.intro ⟨_, rfl⟩ (gx_c1 (gx_le8 rfl) hG (gx_ar (i + 1) (nI_add i 1) (by omega) (by omega) (gx_ar (i + 2) (nI_add i 2) (by omega) (by omega) (gx_ar (i + 3) (nI_add i 3) (by omega) (by omega) (gx_ar (i + 4) (nI_add i 4) (by omega) (by omega) (gx_ar (i + 5) (nI_add i 5) (by omega) (by omega) (And.intro hO (gx_c1 (gx_le8 rfl) hM (And.intro (fun _ => hnext _ _ _ _ _ _ _ _ _ _ hI') (fun c => absurd rfl c))))))))))))))))
    · obtain ⟨r, h1, μ', sp', M', pc', lp', cl', tk', F', tn', gv', hI', hG, hM, hO⟩ := ga_step (s_leave (LL := LL) (xs := xs) (pc := pc) (lp := lp) (cl := cl) (tn := tn) (gv := gv) hI (xs (i + 1)))
      exact gx_run 15 (gx_ar (i + 1) (nI_add i 1) (by omega) (by omega) (And.intro ⟨_, rfl⟩ (gx_c1 (gx_le8 rfl) hG (gx_ar (i + 1) (nI_add i 1) (by omega) (by omega) (And.intro hO (gx_c1 (gx_le8 rfl) hM (And.intro (fun _ => hnext _ _ _ _ _ _ _ _ _ _ hI') (fun c => absurd rfl c))))))))
    · obtain ⟨r, h1, μ', sp', M', pc', lp', cl', tk', F', tn', gv', hI', hG, hM, hO⟩ := ga_step (s_caught (LL := LL) (xs := xs) (pc := pc) (lp := lp) (cl := cl) (tn := tn) (gv := gv) hI (xs (i + 1)) (xs (i + 2)) (xs (i + 3)))
      exact gx_run 35 (gx_ar (i + 1) (nI_add i 1) (by omega) (by omega) (gx_ar (i + 2) (nI_add i 2) (by omega) (by omega) (gx_ar (i + 3) (nI_add i 3) (by omega) (by omega) (And.intro ⟨_, rfl⟩ (gx_c1 (gx_le8 rfl) hG (gx_ar (i + 1) (nI_add i 1) (by omega) (by omega) (gx_ar (i + 2) (nI_add i 2) (by omega) (by omega) (gx_ar (i + 3) (nI_add i 3) (by omega) (by omega) (And.intro hO (gx_c1 (gx_le8 rfl) hM (And.intro (fun _ => hnext _ _ _ _ _ _ _ _ _ _ hI') (fun c => absurd rfl c))))))))))))
    · obtain ⟨r, h1, μ', sp', M', pc', lp', cl', tk', F', tn', gv', hI', hG, hM, hO⟩ := ga_step (s_thrown (LL := LL) (xs := xs) (pc := pc) (lp := lp) (cl := cl) (tn := tn) (gv := gv) hI (xs (i + 1)) (xs (i + 2)))
      exact gx_run 25 (gx_ar (i + 1) (nI_add i 1) (by omega) (by omega) (gx_ar (i + 2) (nI_add i 2) (by omega) (by omega) (And.intro ⟨_, rfl⟩ (gx_c1 (gx_le8 rfl) hG (gx_ar (i + 1) (nI_add i 1) (by omega) (by omega) (gx_ar (i + 2) (nI_add i 2) (by omega) (by omega) (And.intro hO (gx_c1 (gx_le8 rfl) hM (And.intro (fun _ => hnext _ _ _ _ _ _ _ _ _ _ hI') (fun c => absurd rfl c))))))))))
    · obtain ⟨r, h1, μ', sp', M', pc', lp', cl', tk', F', tn', gv', hI', hG, hM, hO⟩ := ga_step (s_tail (LL := LL) (xs := xs) (pc := pc) (lp := lp) (cl := cl) (tn := tn) (gv := gv) hI (xs (i + 1)) (xs (i + 2)))
      exact gx_run 25 (gx_ar (i + 1) (nI_add i 1) (by omega) (by omega) (gx_ar (i + 2) (nI_add i 2) (by omega) (by omega) (And.intro ⟨_, rfl⟩ (gx_c1 (gx_le8 rfl) hG (gx_ar (i + 1) (nI_add i 1) (by omega) (by omega) (gx_ar (i + 2) (nI_add i 2) (by omega) (by omega) (And.intro hO (gx_c1 (gx_le8 rfl) hM (And.intro (fun _ => hnext _ _ _ _ _ _ _ _ _ _ hI') (fun c => absurd rfl c))))))))))
    · obtain ⟨r, h1, μ', sp', M', pc', lp', cl', tk', F', tn', gv', hI', hG, hM, hO⟩ := ga_step (s_push (LL := LL) (xs := xs) (pc := pc) (lp := lp) (cl := cl) (tn := tn) (gv := gv) hI (xs (i + 1)))
      exact gx_run 15 (gx_ar (i + 1) (nI_add i 1) (by omega) (by omega) (And.intro ⟨_, rfl⟩ (gx_c1 (gx_le8 rfl) hG (gx_ar (i + 1) (nI_add i 1) (by omega) (by omega) (And.intro hO (gx_c1 (gx_le8 rfl) hM (And.intro (fun _ => hnext _ _ _ _ _ _ _ _ _ _ hI') (fun c => absurd rfl c))))))))
    · obtain ⟨r, h1, μ', sp', M', pc', lp', cl', tk', F', tn', gv', hI', hG, hM, hO⟩ := ga_step (s_pop (LL := LL) (xs := xs) (pc := pc) (lp := lp) (cl := cl) (tn := tn) (gv := gv) hI )
      exact gx_run 5 (And.intro ⟨_, rfl⟩ (gx_c1 (gx_le8 rfl) hG (And.intro hO (gx_c1 (gx_le8 rfl) hM (And.intro (fun _ => hnext _ _ _ _ _ _ _ _ _ _ hI') (fun c => absurd rfl c))))))
    · obtain ⟨r, h1, μ', sp', M', pc', lp', cl', tk', F', tn', gv', hI', hG, hM, hO⟩ := ga_step (s_popped (LL := LL) (xs := xs) (pc := pc) (lp := lp) (cl := cl) (tn := tn) (gv := gv) hI )
      exact gx_run 5 (And.intro ⟨_, rfl⟩ (gx_c1 (gx_le8 rfl) hG (And.intro hO (gx_c1 (gx_le8 rfl) hM (And.intro (fun _ => hnext _ _ _ _ _ _ _ _ _ _ hI') (fun c => absurd rfl c))))))
    · obtain ⟨r, h1, μ', sp', M', pc', lp', cl', tk', F', tn', gv', hI', hG, hM, hO⟩ := ga_step (s_peek (LL := LL) (xs := xs) (pc := pc) (lp := lp) (cl := cl) (tn := tn) (gv := gv) hI (xs (i + 1)))
      exact gx_run 15 (gx_ar (i + 1) (nI_add i 1) (by omega) (by omega) (And.intro ⟨_, rfl⟩ (gx_c1 (gx_le8 rfl) hG (gx_ar (i + 1) (nI_add i 1) (by omega) (by omega) (And.intro hO (gx_c1 (gx_le8 rfl) hM (And.intro (fun _ => hnext _ _ _ _ _ _ _ _ _ _ hI') (fun c => absurd rfl c))))))))
    · obtain ⟨r, h1, μ', sp', M', pc', lp', cl', tk', F', tn', gv', hI', hG, hM, hO⟩ := ga_step (s_copy (LL := LL) (xs := xs) (pc := pc) (lp := lp) (cl := cl) (tn := tn) (gv := gv) hI (xs (i + 1)))
      exact gx_run 15 (gx_ar (i + 1) (nI_add i 1) (by omega) (by omega) (And.intro ⟨_, rfl⟩ (gx_c1 (gx_le8 rfl) hG (gx_ar (i + 1) (nI_add i 1) (by omega) (by omega) (And.intro hO (gx_c1 (gx_le8 rfl) hM (And.intro (fun _ => hnext _ _ _ _ _ _ _ _ _ _ hI') (fun c => absurd rfl c))))))))
    · obtain ⟨r, h1, μ', sp', M', pc', lp', cl', tk', F', tn', gv', hI', hG, hM, hO⟩ := ga_step (s_roll (LL := LL) (xs := xs) (pc := pc) (lp := lp) (cl := cl) (tn := tn) (gv := gv) hI (xs (i + 1)) (xs (i + 2)))
      exact gx_run 25 (gx_ar (i + 1) (nI_add i 1) (by omega) (by omega) (gx_ar (i + 2) (nI_add i 2) (by omega) (by omega) (And.intro ⟨_, rfl⟩ (gx_c1 (gx_le8 rfl) hG (gx_ar (i + 1) (nI_add i 1) (by omega) (by omega) (gx_ar (i + 2) (nI_add i 2) (by omega) (by omega) (And.intro hO (gx_c1 (gx_le8 rfl) hM (And.intro (fun _ => hnext _ _ _ _ _ _ _ _ _ _ hI') (fun c => absurd rfl c))))))))))
    · obtain ⟨r, h1, μ', sp', M', pc', lp', cl', tk', F', tn', gv', hI', hG, hM, hO⟩ := ga_step (s_swap (LL := LL) (xs := xs) (pc := pc) (lp := lp) (cl := cl) (tn := tn) (gv := gv) hI )
      exact gx_run 5 (And.intro ⟨_, rfl⟩ (gx_c1 (gx_le8 rfl) hG (And.intro hO (gx_c1 (gx_le8 rfl) hM (And.intro (fun _ => hnext _ _ _ _ _ _ _ _ _ _ hI') (fun c => absurd rfl c))))))
    · obtain ⟨r, h1, μ', sp', M', pc', lp', cl', tk', F', tn', gv', hI', hG, hM, hO⟩ := ga_step (s_load (LL := LL) (xs := xs) (pc := pc) (lp := lp) (cl := cl) (tn := tn) (gv := gv) hI (xs (i + 1)) (xs (i + 2)))
      exact gx_run 25 (gx_ar (i + 1) (nI_add i 1) (by omega) (by omega) (gx_ar (i + 2) (nI_add i 2) (by omega) (by omega) (And.intro ⟨_, rfl⟩ (gx_c1 (gx_le8 rfl) hG (gx_ar (i + 1) (nI_add i 1) (by omega) (by omega) (gx_ar (i + 2) (nI_add i 2) (by omega) (by omega) (And.intro hO (gx_c1 (gx_le8 rfl) hM (And.intro (fun _ => hnext _ _ _ _ _ _ _ _ _ _ hI') (fun c => absurd rfl c))))))))))
    · obtain ⟨r, h1, μ', sp', M', pc', lp', cl', tk', F', tn', gv', hI', hG, hM, hO⟩ := ga_step (s_store (LL := LL) (xs := xs) (pc := pc) (lp := lp) (cl := cl) (tn := tn) (gv := gv) hI (xs (i + 1)) (xs (i + 2)) (xs (i + 3)))
      exact gx_run 35 (gx_ar (i + 1) (nI_add i 1) (by omega) (by omega) (gx_ar (i + 2) (nI_add i 2) (by omega) (by omega) (gx_ar (i + 3) (nI_add i 3) (by omega) (by omega) (And.intro ⟨_, rfl⟩ (gx_c1 (gx_le8 rfl) hG (gx_ar (i + 1) (nI_add i 1) (by omega) (by omega) (gx_ar (i + 2) (nI_add i 2) (by omega) (by omega) (gx_ar (i + 3) (nI_add i 3) (by omega) (by omega) (And.intro hO (gx_c1 (gx_le8 rfl) hM (And.intro (fun _ => hnext _ _ _ _ _ _ _ _ _ _ hI') (fun c => absurd rfl c))))))))))))
    · obtain ⟨r, h1, μ', sp', M', pc', lp', cl', tk', F', tn', gv', hI', hG, hM, hO⟩ := ga_step (s_byteAt (LL := LL) (xs := xs) (pc := pc) (lp := lp) (cl := cl) (tn := tn) (gv := gv) hI (xs (i + 1)))
      exact gx_run 15 (gx_ar (i + 1) (nI_add i 1) (by omega) (by omega) (And.intro ⟨_, rfl⟩ (gx_c1 (gx_le8 rfl) hG (gx_ar (i + 1) (nI_add i 1) (by omega) (by omega) (And.intro hO (gx_c1 (gx_le8 rfl) hM (And.intro (fun _ => hnext _ _ _ _ _ _ _ _ _ _ hI') (fun c => absurd rfl c))))))))
    · obtain ⟨r, h1, μ', sp', M', pc', lp', cl', tk', F', tn', gv', hI', hG, hM, hO⟩ := ga_step (s_cell (LL := LL) (xs := xs) (pc := pc) (lp := lp) (cl := cl) (tn := tn) (gv := gv) hI (xs (i + 1)))
      exact gx_run 15 (gx_ar (i + 1) (nI_add i 1) (by omega) (by omega) (And.intro ⟨_, rfl⟩ (gx_c1 (gx_le8 rfl) hG (gx_ar (i + 1) (nI_add i 1) (by omega) (by omega) (And.intro hO (gx_c1 (gx_le8 rfl) hM (And.intro (fun _ => hnext _ _ _ _ _ _ _ _ _ _ hI') (fun c => absurd rfl c))))))))
    · obtain ⟨r, h1, μ', sp', M', pc', lp', cl', tk', F', tn', gv', hI', hG, hM, hO⟩ := ga_step (s_count (LL := LL) (xs := xs) (pc := pc) (lp := lp) (cl := cl) (tn := tn) (gv := gv) hI (xs (i + 1)))
      exact gx_run 15 (gx_ar (i + 1) (nI_add i 1) (by omega) (by omega) (And.intro ⟨_, rfl⟩ (gx_c1 (gx_le8 rfl) hG (gx_ar (i + 1) (nI_add i 1) (by omega) (by omega) (And.intro hO (gx_c1 (gx_le8 rfl) hM (And.intro (fun _ => hnext _ _ _ _ _ _ _ _ _ _ hI') (fun c => absurd rfl c))))))))
theorem l_cell {d : Nat} {h : gx_H} (hLL : LL ≤ 3073) : gx_call LL xs (d + 1) z_L_cell 0 0 [.retAddr 0, .int (nI 0)] h (fun r h' => r = some (.int (if 0 < LL then xs 0 else nI 0)) ∧ h' = h) := by
  by_cases c : 0 < LL
  · rw [if_pos c]
    exact gs_L_cell _ (gx_run 4 (And.intro (fun z => absurd z (nI_ge c (by omega))) (fun _ => gx_run 5 (gx_ar 0 rfl c (by omega) (And.intro rfl rfl)))))
  · rw [if_neg c]
    exact gs_L_cell _ (gx_run 4 (And.intro (fun _ => gx_run 2 (And.intro rfl rfl)) (fun z => absurd (nI_le (show LL ≤ 0 by omega) (by decide)) z)))
theorem ga_I0 {n : Nat} (h1 : 64 ≤ n) (h2 : n ≤ 1024) : ga_I n (fun _ => 0) 0 [] (fun _ => 0) (fun _ => ga_F0) := ⟨h1, h2, Nat.zero_le _, fun _ => Nat.zero_lt_succ _, trivial, trivial, fun _ _ => ⟨Nat.zero_le _, Nat.zero_le _, Nat.zero_le _, fun i hi => absurd hi (Nat.not_lt_zero i)⟩⟩
set_option maxRecDepth 100000 in
theorem law_run (hLL : LL ≤ 3073) : gx_E LL xs (gx_call LL xs 8) cd_L_law (fun r _ => r = some (.int (nI 1))) 0 [some (.retAddr 0), none, none, none] [] [] 600000 7302250 := by
  have hb := ga_n_b (if 0 < LL then xs 0 else nI 0)
  have h9 := law_l (xs := xs) (n := ga_n (if 0 < LL then xs 0 else nI 0)) hLL 600 1 (fun _ => 0) 0 [] 0 0 (fun _ => 0) (fun _ => 0) (fun _ => ga_F0) (fun _ => 0) (fun _ => 0) (600000 - 1 - 60 - 1 - 9) (7302250 - 9 - 3000 - 15 - 1600) (by omega) (by decide) (ga_I0 hb.1 hb.2)
  refine gx_run 7 (And.intro (by decide) (And.intro (by decide) (gx_c1 (gx_le8 rfl) (l_cell hLL) (And.intro ⟨_, rfl⟩ (gx_ca (mc := 60) (ms := 3000) (by decide) (by decide) (gx_le8 rfl) (g_G_init _) (And.intro rfl ?_))))))
  exact gx_run 9 (And.intro (by decide) (And.intro (by decide) (gx_c1 (gx_le8 rfl) (l_cell hLL) (And.intro ⟨_, rfl⟩ (gx_ca (mc := 9) (ms := 1600) (by decide) (by decide) (gx_le8 rfl) (g_M_init (h0 := ga_hG _) _ rfl) (And.intro rfl h9))))))
end GLW
