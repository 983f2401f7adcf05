/-! The reference: its cells stand behind the class's 43. -/
def gm_q (pre : Nat → gx_A) (n : Nat) (μ : Nat → Nat) (sp : Nat) (fo : Option Nat) (pc lp : Int32) (cl : Nat → Int32) (hd pr wd ct fs : Nat → Int32) (tk : Nat → Nat) (tc : Nat) (gv : Nat → Int32) : gx_H :=
  pre 0 :: pre 1 :: pre 2 :: pre 3 :: pre 4 :: pre 5 :: pre 6 :: pre 7 :: pre 8 :: pre 9 :: pre 10 :: pre 11 :: pre 12 :: pre 13 :: pre 14 :: pre 15 :: pre 16 :: pre 17 :: pre 18 :: pre 19 :: pre 20 :: pre 21 ::
  pre 22 :: pre 23 :: pre 24 :: pre 25 :: pre 26 :: pre 27 :: pre 28 :: pre 29 :: pre 30 :: pre 31 :: pre 32 :: pre 33 :: pre 34 :: pre 35 :: pre 36 :: pre 37 :: pre 38 :: pre 39 :: pre 40 :: pre 41 :: pre 42 ::
  [.inr (.inr (3, [.int (nI n), .ref 44, .int (nI sp), .int (ga_fp fo), .int pc, .ref 45, .ref 46, .ref 47, .ref 48, .ref 49, .ref 50, .ref 51, .int (nI tc), .int lp, .ref 52])),
    .inl (0, 1024, fun i => nI (μ i)), .inl (0, 16, cl), .inl (0, 12, hd), .inl (0, 12, pr), .inl (0, 72, wd), .inl (0, 72, ct), .inl (0, 12, fs), .inl (0, 64, fun i => nI (tk i)), .inl (0, 256, gv)]
def gm_h (pre : Nat → gx_A) (n : Nat) (μ : Nat → Nat) (sp : Nat) (fo : Option Nat) (pc lp : Int32) (cl : Nat → Int32) (tk : Nat → Nat) (tc : Nat) (F : Nat → ga_F) (gv : Nat → Int32) : gx_H :=
  gm_q pre n μ sp fo pc lp cl (fun f => nI (F f).1) (fun f => nI (F f).2.2.1) (fun i => nI ((F (i / 6)).2.2.2.1 (i % 6))) (fun i => nI ((F (i / 6)).2.2.2.2 (i % 6))) (fun f => nI (F f).2.1) tk tc gv
theorem ga_dm {f p : Nat} (h : p < 6) : (6 * f + p) / 6 = f ∧ (6 * f + p) % 6 = p := by omega
theorem ga_i64 (x : Int32) (c : Nat) (hc : c < 2147483648) : (lN 0 ≤ x.toInt64 ∧ x.toInt64 ≤ lN c) ↔ ¬ x < 0 ∧ ¬ nI c < x := by
  rw [Int64.le_iff_toInt_le, Int64.le_iff_toInt_le, Int32.toInt_toInt64, lN_toInt (by omega), lN_toInt hc, Int32.lt_iff_toInt_lt, Int32.lt_iff_toInt_lt, Int32.toInt_zero, nI_toInt hc]
  omega
theorem ga_i64b (x y : Int32) : (lN 0 ≤ x.toInt64 ∧ x.toInt64 ≤ y.toInt64) ↔ ¬ x < 0 ∧ ¬ y < x := by
  rw [Int64.le_iff_toInt_le, Int64.le_iff_toInt_le, Int32.toInt_toInt64, Int32.toInt_toInt64, lN_toInt (by omega), Int32.lt_iff_toInt_lt, Int32.lt_iff_toInt_lt, Int32.toInt_zero]
  omega
section GMA
variable {LL : Nat} {xs : Nat → Int32} {d : Nat} {pre : Nat → gx_A} {n : Nat} {μ : Nat → Nat} {sp : Nat} {fo : Option Nat} {pc lp : Int32} {cl : Nat → Int32} {tk : Nat → Nat} {tc : Nat} {F : Nat → ga_F} {gv : Nat → Int32} {k : Nat}
theorem m_fault (x : Int32) {h : gx_H} : gx_call LL xs (d + 1) z_M_fault 0 0 [.int x] h (fun r h' => r = some (.int (-(nI 10) - x)) ∧ h' = h) :=
  gs_M_fault _ (gx_run 4 (And.intro rfl rfl))
theorem m_read_l {a w : Nat} (hw : a + w ≤ 1024) : ∀ (m k : Nat), k + m = w →
    gx_E LL xs (gx_call LL xs d) cd_M_read (fun r h => r = some (.int (ga_rd μ a w)) ∧ h = (gm_h pre n μ sp fo pc lp cl tk tc F gv)) 4 [some (.ref 43), some (.int (nI a)), some (.int (nI w)), some (.int (ga_rd μ a k)), some (.int (nI k))] [] (gm_h pre n μ sp fo pc lp cl tk tc F gv) 0 0 := by
  intro m
  induction m with
  | zero =>
    intro k hk
    obtain rfl : k = w := by omega
    exact gx_run 3 (And.intro (fun _ => gx_run 2 (And.intro rfl rfl)) (fun c => absurd (nI_le (Nat.le_refl k) (by omega)) c))
  | succ m ih =>
    intro k hk
    refine gx_run 3 (And.intro (fun c => absurd c (nI_ge (show k < w by omega) (by omega))) (fun _ => gx_run 13 (gx_ar (a + k) (nI_add a k) (by omega) (by omega) ?_)))
    have h9 := ih (k + 1) (by omega)
    rw [← nI_add k 1] at h9
    exact h9
theorem m_read {a w : Nat} (hw : a + w ≤ 1024) : gx_call LL xs (d + 1) z_M_read 0 0 [.ref 43, .int (nI a), .int (nI w)] (gm_h pre n μ sp fo pc lp cl tk tc F gv) (fun r h => r = some (.int (ga_rd μ a w)) ∧ h = (gm_h pre n μ sp fo pc lp cl tk tc F gv)) :=
  gs_M_read _ _ _ (gx_run 4 (m_read_l hw w 0 (Nat.zero_add w)))
theorem m_write_l {a w : Nat} (hw : a + w ≤ 1024) : ∀ (k : Nat) (μ : Nat → Nat) (v : Int32) (w0 v0 : Int32), k ≤ w →
    gx_E LL xs (gx_call LL xs d) cd_M_write (fun r h => r = none ∧ h = (gm_h pre n (ga_wr μ a k v) sp fo pc lp cl tk tc F gv)) 6 [some (.ref 43), some (.int (nI a)), some (.int w0), some (.int v0), some (.int v), some (.int (nI k - nI 1))] [] (gm_h pre n μ sp fo pc lp cl tk tc F gv) 0 0 := by
  intro k
  induction k with
  | zero =>
    intro μ v w0 v0 hk
    exact gx_run 2 (And.intro (fun _ => gx_run 1 (And.intro rfl rfl)) (fun c => absurd (by decide) c))
  | succ k ih =>
    intro μ v w0 v0 hk
    have e1 : nI (k + 1) - nI 1 = nI k := pk_sub (Nat.le_add_left 1 k)
    rw [e1]
    have h9 := ih (va_up μ (a + k) (ga_lo v)) (v >>> (nI 8 &&& 31)) w0 v0 (by omega)
    have e2 : (gm_h pre n (va_up μ (a + k) (ga_lo v)) sp fo pc lp cl tk tc F gv) = (gm_h pre n μ sp fo pc lp cl tk tc F gv).set 44 (.inl (0, 1024, upd (fun i => nI (μ i)) (a + k) (v &&& nI 255))) := by
      rw [ga_and, gm_byte]
      rfl
    rw [e2] at h9
    exact gx_run 2 (And.intro (fun c => absurd c (nI_pos (by omega))) (fun _ => gx_run 15 (gx_ar (a + k) (nI_add a k) (by omega) (by omega) h9)))
theorem m_write {a w : Nat} (v : Int32) (hw : a + w ≤ 1024) : gx_call LL xs (d + 1) z_M_write 0 0 [.ref 43, .int (nI a), .int (nI w), .int v] (gm_h pre n μ sp fo pc lp cl tk tc F gv) (fun r h => r = none ∧ h = (gm_h pre n (ga_wr μ a w v) sp fo pc lp cl tk tc F gv)) :=
  gs_M_write _ _ _ _ (gx_run 6 (m_write_l hw w μ v _ _ (Nat.le_refl w)))
theorem m_isFunction (x : Int32) {h : gx_H} : gx_call LL xs (d + 1) z_M_isFunction 0 0 [.int x] h (fun r h' => r = some (.int (if x < 0 ∨ nI 12 ≤ x then nI 0 else nI 1)) ∧ h' = h) := by
  refine gs_M_isFunction _ (gx_run 6 (And.intro (gx_le8 rfl) (And.intro (fun c => And.intro (Or.inr rfl) (And.intro ?_ rfl)) (fun c => And.intro (Or.inl rfl) (And.intro ?_ rfl)))))
  · have c' := (ga_i64 x 11 (by decide)).mp c
    rw [if_neg]
    rintro (h | h)
    · exact c'.1 h
    · refine c'.2 (Int32.lt_iff_toInt_lt.mpr ?_)
      have := Int32.le_iff_toInt_le.mp h
      rw [nI_toInt (by decide)] at this ⊢
      omega
  · rw [if_pos]
    rcases pk_ix x (n := 12) (by decide) with h | h | ⟨j, hj, rfl⟩
    · exact Or.inl h
    · exact Or.inr h
    · exact absurd ((ga_i64 _ 11 (by decide)).mpr ⟨nI_pos (by omega), nI_nlt (by omega) (by decide)⟩) c
theorem m_isFunction_t (hk : k < 12) {h : gx_H} : gx_call LL xs (d + 1) z_M_isFunction 0 0 [.int (nI k)] h (fun r h' => r = some (.int (nI 1)) ∧ h' = h) := by
  have := m_isFunction (LL := LL) (xs := xs) (d := d) (nI k) (h := h)
  rw [if_neg (by
    rintro (h | h)
    · exact nI_pos (by omega) h
    · exact nI_ge hk (by omega) h)] at this
  exact this
theorem m_isFunction_f {x : Int32} (hx : x < 0 ∨ nI 12 ≤ x) {h : gx_H} : gx_call LL xs (d + 1) z_M_isFunction 0 0 [.int x] h (fun r h' => r = some (.int (nI 0)) ∧ h' = h) := by
  have := m_isFunction (LL := LL) (xs := xs) (d := d) x (h := h)
  rw [if_pos hx] at this
  exact this
theorem m_isWidth (x : Int32) {h : gx_H} : gx_call LL xs (d + 1) z_M_isWidth 0 0 [.int x] h (fun r h' => r = some (.int (if x = nI 1 ∨ x = nI 2 ∨ x = nI 4 then nI 1 else nI 0)) ∧ h' = h) := by
  refine gs_M_isWidth _ (gx_run 3 (And.intro (fun c => gx_run 3 (And.intro (Or.inr rfl) (And.intro ?_ rfl))) (fun c1 => gx_run 3 (And.intro (fun c => gx_run 3 (And.intro (Or.inr rfl) (And.intro ?_ rfl))) (fun c2 => gx_run 3 (And.intro (fun c => gx_run 2 (And.intro (Or.inl rfl) (And.intro ?_ rfl))) (fun c => gx_run 3 (And.intro (Or.inr rfl) (And.intro ?_ rfl)))))))))
  · rw [if_pos (Or.inl c)]
  · rw [if_pos (Or.inr (Or.inl c))]
  · rw [if_neg (by rintro (h | h | h) <;> contradiction)]
  · rw [if_pos (Or.inr (Or.inr c))]
theorem m_up {u x : Nat} (hu : 0 < u) (hu4 : u ≤ 4) (hx : x < 2 ^ 30) {h : gx_H} : gx_call LL xs (d + 1) z_M_up 0 0 [.int (nI x), .int (nI u)] h (fun r h' => r = some (.int (nI (ga_up u x))) ∧ h' = h) := by
  refine gs_M_up _ _ (gx_run 10 (And.intro (nI_ne0 hu (by omega)) (And.intro ?_ rfl)))
  rw [nI_add, pk_sub (show 1 ≤ x + u by omega), pk_div (by omega) hu (by omega), pk_mul]
  rfl
theorem m_begin (hk : k < 12) (hp : (F k).2.2.1 ≤ 6) : gx_call LL xs (d + 2) z_M_begin 0 0 [.ref 43, .int (nI k)] (gm_h pre n μ sp fo pc lp cl tk tc F gv) (fun r h => r = some (.int (nI (ga_lb (F k)))) ∧ h = (gm_h pre n μ sp fo pc lp cl tk tc F gv)) := by
  have hc : gx_call LL xs (d + 1) z_M_up 0 0 [.int (nI 8 + nI 2 * (nI (F k).2.2.1 + nI 1)), .int (nI 4)] (gm_h pre n μ sp fo pc lp cl tk tc F gv) (fun r h => r = some (.int (nI (ga_lb (F k)))) ∧ h = (gm_h pre n μ sp fo pc lp cl tk tc F gv)) := by
    rw [nI_add, pk_mul, nI_add, show 8 + 2 * ((F k).2.2.1 + 1) = 10 + 2 * (F k).2.2.1 by omega]
    exact m_up (by decide) (by decide) (by omega)
  exact gs_M_begin _ _ (gx_run 13 (gx_ar k rfl hk (by decide) (gx_c1 (gx_le8 rfl) hc (And.intro rfl rfl))))
theorem m_locals_l (hk : k < 12) (hp : (F k).2.2.1 ≤ 6) : ∀ (m p : Nat), p + m = (F k).2.2.1 →
    gx_E LL xs (gx_call LL xs d) cd_M_locals (fun r h => r = some (.int (nI (ga_ls (F k)))) ∧ h = (gm_h pre n μ sp fo pc lp cl tk tc F gv)) 4 [some (.ref 43), some (.int (nI k)), some (.int (nI (ga_lc (F k).2.2.2.2 p))), some (.int (nI p))] [] (gm_h pre n μ sp fo pc lp cl tk tc F gv) 0 0 := by
  intro m
  induction m with
  | zero =>
    intro p hm
    refine gx_run 6 (gx_ar k rfl hk (by decide) (And.intro (fun _ => gx_run 2 (And.intro ?_ rfl)) (fun c => absurd (nI_le (show (F k).2.2.1 ≤ p by omega) (by omega)) c)))
    rw [show p = (F k).2.2.1 by omega]
    rfl
  | succ m ih =>
    intro p hm
    have h9 := ih (p + 1) (by omega)
    rw [show ga_lc (F k).2.2.2.2 (p + 1) = ga_lc (F k).2.2.2.2 p + (F k).2.2.2.2 p from rfl, ← nI_add, ← nI_add] at h9
    refine gx_run 6 (gx_ar k rfl hk (by decide) (And.intro (fun c => absurd c (nI_ge (show p < (F k).2.2.1 by omega) (by omega))) (fun _ => gx_run 13 (gx_ar (6 * k + p) (by rw [pk_mul, nI_add]) (by omega) (by decide) ?_))))
    obtain ⟨e1, e2⟩ := ga_dm (f := k) (p := p) (by omega)
    rw [← e1, ← e2] at h9
    simp only [e1, e2] at h9 ⊢
    exact h9
end GMA
