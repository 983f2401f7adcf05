/-! The class Function, at any of its twelve places. -/
section GXS
variable {LL : Nat} {xs : Nat → Int32} {CALL : gx_C} {cd : List gx_T} {Q : gx_Q} {i pc a b c : Nat} {ts : List Nat} {L : gx_L} {r : List Value} {h : gx_H} {cb sb q : Nat}
/-- one instruction at a cell that is known by a fact -/
theorem gx_getf {ix : Nat} {fs : List Value} {v : Value} (hcd : cd[i]? = some (pc, .getfield ix, a, b, c, ts)) (hq : h[q]? = some (.inr (.inr (a, fs)))) (hv : fs[b]? = some v) (k : gx_E LL xs CALL cd Q (i + 1) L (v :: r) h cb sb) : gx_E LL xs CALL cd Q i L (.ref q :: r) h cb sb := by
  refine gx_fold (k := gx_E LL xs CALL cd Q) (fun _ _ _ _ _ _ h => h) ?_
  unfold gx_1
  rw [hcd]
  show gx_ob h q a _
  unfold gx_ob
  rw [hq]
  dsimp only
  rw [Nat.beq_refl]
  dsimp only
  unfold gx_fd
  rw [hv]
  exact k
theorem gx_putf {ix : Nat} {fs : List Value} {v v0 : Value} (hcd : cd[i]? = some (pc, .putfield ix, a, b, c, ts)) (hq : h[q]? = some (.inr (.inr (a, fs)))) (hv : fs[b]? = some v0) (hk : ∀ P : Prop, P → gx_kd c v P) (k : gx_E LL xs CALL cd Q (i + 1) L r (h.set q (.inr (.inr (a, fs.set b v)))) cb sb) : gx_E LL xs CALL cd Q i L (v :: .ref q :: r) h cb sb := by
  refine gx_fold (k := gx_E LL xs CALL cd Q) (fun _ _ _ _ _ _ h => h) ?_
  unfold gx_1
  rw [hcd]
  show gx_ob h q a _
  unfold gx_ob
  rw [hq]
  dsimp only
  rw [Nat.beq_refl]
  dsimp only
  unfold gx_fd
  rw [hv]
  exact hk _ k
theorem gx_iald {n j : Nat} {g : Nat → Int32} {x : Int32} (hcd : cd[i]? = some (pc, .iaload, a, b, c, ts)) (hq : h[q]? = some (.inl (0, n, g))) (hx : x = nI j) (hj : j < n) (hn : n < 2147483648) (k : gx_E LL xs CALL cd Q (i + 1) L (.int (g j) :: r) h cb sb) : gx_E LL xs CALL cd Q i L (.int x :: .ref q :: r) h cb sb := by
  refine gx_fold (k := gx_E LL xs CALL cd Q) (fun _ _ _ _ _ _ h => h) ?_
  unfold gx_1
  rw [hcd]
  show gx_a0 h q _
  unfold gx_a0
  rw [hq]
  exact ⟨j, hx, hj, hn, k⟩
theorem gx_iast {n j : Nat} {g : Nat → Int32} {x v : Int32} (hcd : cd[i]? = some (pc, .iastore, a, b, c, ts)) (hq : h[q]? = some (.inl (0, n, g))) (hx : x = nI j) (hj : j < n) (hn : n < 2147483648) (k : gx_E LL xs CALL cd Q (i + 1) L r (h.set q (.inl (0, n, upd g j v))) cb sb) : gx_E LL xs CALL cd Q i L (.int v :: .int x :: .ref q :: r) h cb sb := by
  refine gx_fold (k := gx_E LL xs CALL cd Q) (fun _ _ _ _ _ _ h => h) ?_
  unfold gx_1
  rw [hcd]
  show gx_a0 h q _
  unfold gx_a0
  rw [hq]
  exact ⟨j, hx, hj, hn, k⟩
end GXS
theorem ga_12 {P : Nat → Prop} (h0 : P 0) (h1 : P 1) (h2 : P 2) (h3 : P 3) (h4 : P 4) (h5 : P 5) (h6 : P 6) (h7 : P 7) (h8 : P 8) (h9 : P 9) (h10 : P 10) (h11 : P 11) {k : Nat} (hk : k < 12) : P k := by
  match k, hk with
  | 0, _ => exact h0
  | 1, _ => exact h1
  | 2, _ => exact h2
  | 3, _ => exact h3
  | 4, _ => exact h4
  | 5, _ => exact h5
  | 6, _ => exact h6
  | 7, _ => exact h7
  | 8, _ => exact h8
  | 9, _ => exact h9
  | 10, _ => exact h10
  | 11, _ => exact h11
/-! numbers (nx_and: from kit/laws/BITS) -/
theorem nx_and (a b : Nat) : nI a &&& nI b = nI (a &&& b) := by
  apply Int32.toBitVec_inj.1
  show BitVec.ofNat 32 a &&& BitVec.ofNat 32 b = BitVec.ofNat 32 (a &&& b)
  apply BitVec.eq_of_getLsbD_eq
  intro i hi
  simp [hi]
def ga_up (u x : Nat) : Nat := (x + u - 1) / u * u
theorem ga_up_ge {u x : Nat} (hu : 0 < u) : x ≤ ga_up u x := by
  unfold ga_up
  have h1 := Nat.div_add_mod (x + u - 1) u
  have h2 := Nat.mod_lt (x + u - 1) hu
  have h3 : (x + u - 1) / u * u = u * ((x + u - 1) / u) := Nat.mul_comm _ _
  omega
theorem ga_up_lt {u x : Nat} (hu : 0 < u) : ga_up u x < x + u := by
  unfold ga_up
  have h1 := Nat.div_add_mod (x + u - 1) u
  have h3 : (x + u - 1) / u * u = u * ((x + u - 1) / u) := Nat.mul_comm _ _
  omega
theorem ga_mask {y c s : Nat} (hy : y < 2 ^ 32) (hc : ∀ i : Fin 32, c.testBit i.val = decide (s ≤ i.val)) : y &&& c = y / 2 ^ s * 2 ^ s := by
  rw [← Nat.shiftRight_eq_div_pow, ← Nat.shiftLeft_eq]
  apply Nat.eq_of_testBit_eq
  intro i
  rw [Nat.testBit_and, Nat.testBit_shiftLeft, Nat.testBit_shiftRight]
  by_cases h : i < 32
  · rw [hc ⟨i, h⟩]
    by_cases h2 : s ≤ i
    · simp [h2, show s + (i - s) = i by omega]
    · simp [h2]
  · have hb : y.testBit i = false := Nat.testBit_lt_two_pow (Nat.lt_of_lt_of_le hy (Nat.pow_le_pow_right (by decide) (by omega)))
    by_cases h2 : s ≤ i
    · simp [hb, h2, show s + (i - s) = i by omega]
    · simp [hb, h2]
theorem ga_up_i {u x : Nat} (hu : u = 1 ∨ u = 2 ∨ u = 4) (hx : x < 2 ^ 30) : (nI x + nI u - nI 1) &&& -(nI u) = nI (ga_up u x) := by
  have e0 : nI x + nI u - nI 1 = nI (x + u - 1) := by rw [nI_add]; exact pk_sub (by omega)
  rw [e0]
  rcases hu with rfl | rfl | rfl
  · rw [show -(nI 1) = nI 4294967295 by decide, nx_and, ga_mask (s := 0) (by omega) (by decide)]; rfl
  · rw [show -(nI 2) = nI 4294967294 by decide, nx_and, ga_mask (s := 1) (by omega) (by decide)]; rfl
  · rw [show -(nI 4) = nI 4294967292 by decide, nx_and, ga_mask (s := 2) (by omega) (by decide)]; rfl
/-- how many locals the first p pairs have -/
def ga_lc (ct : Nat → Nat) : Nat → Nat
  | 0 => 0
  | p + 1 => ga_lc ct p + ct p
/-- where the pairs' locals end -/
def ga_fl (wd ct : Nat → Nat) (i : Nat) : Nat → Nat → Nat
  | 0, at_ => at_
  | m + 1, at_ => ga_fl wd ct (i + 1) m (ga_up (wd i) at_ + ct i * wd i)
/-- where a local is; none: there is none -/
def ga_pl (wd ct : Nat → Nat) (i : Nat) : Nat → Nat → Nat → Option Nat
  | 0, _, _ => none
  | m + 1, at_, left => if left < ct i then some (ga_up (wd i) at_ + left * wd i) else ga_pl wd ct (i + 1) m (ga_up (wd i) at_ + ct i * wd i) (left - ct i)
/-- a function's pairs are as told -/
def ga_wf (f : ga_F) : Prop := f.1 ≤ 255 ∧ f.2.1 ≤ 3 ∧ f.2.2.1 ≤ 6 ∧ ∀ i, i < f.2.2.1 → (f.2.2.2.1 i = 1 ∨ f.2.2.2.1 i = 2 ∨ f.2.2.2.1 i = 4) ∧ 1 ≤ f.2.2.2.2 i ∧ f.2.2.2.2 i ≤ 255
def ga_lb (f : ga_F) : Nat := ga_up 4 (10 + 2 * f.2.2.1)
def ga_len (f : ga_F) : Nat := ga_up 4 (ga_fl f.2.2.2.1 f.2.2.2.2 0 f.2.2.1 (ga_lb f))
theorem ga_mul_le {w c : Nat} (hw : w = 1 ∨ w = 2 ∨ w = 4) (hc : c ≤ 255) : c * w ≤ 1020 := by rcases hw with rfl | rfl | rfl <;> omega
theorem ga_fl_ge {wd ct : Nat → Nat} : ∀ {m i at_ : Nat}, (∀ j, i ≤ j → j < i + m → (wd j = 1 ∨ wd j = 2 ∨ wd j = 4)) → at_ ≤ ga_fl wd ct i m at_
  | 0, _, _, _ => Nat.le_refl _
  | m + 1, i, at_, h => by
    unfold ga_fl
    have h0 : 0 < wd i := by have := h i (Nat.le_refl _) (by omega); omega
    have h1 := ga_up_ge (u := wd i) (x := at_) h0
    have h2 := ga_fl_ge (wd := wd) (ct := ct) (m := m) (i := i + 1) (at_ := ga_up (wd i) at_ + ct i * wd i) (fun j h1 h2 => h j (by omega) (by omega))
    omega
theorem ga_fl_le {wd ct : Nat → Nat} : ∀ {m i at_ : Nat}, (∀ j, i ≤ j → j < i + m → (wd j = 1 ∨ wd j = 2 ∨ wd j = 4) ∧ ct j ≤ 255) → ga_fl wd ct i m at_ ≤ at_ + m * 1024
  | 0, _, _, _ => by unfold ga_fl; omega
  | m + 1, i, at_, h => by
    unfold ga_fl
    have hi := h i (Nat.le_refl _) (by omega)
    have h0 : 0 < wd i := by omega
    have h1 := ga_up_lt (u := wd i) (x := at_) h0
    have h3 := ga_mul_le hi.1 hi.2
    have h2 := ga_fl_le (wd := wd) (ct := ct) (m := m) (i := i + 1) (at_ := ga_up (wd i) at_ + ct i * wd i) (fun j h1 h2 => h j (by omega) (by omega))
    have h4 : wd i ≤ 4 := by omega
    omega
section GCF
variable {LL : Nat} {xs : Nat → Int32} {d : Nat} {n : Nat} {μ : Nat → Nat} {sp : Nat} {fo : Option Nat} {pc lp : Int32} {cl : Nat → Int32} {tk : Nat → Nat} {tc : Nat} {F : Nat → ga_F} {tn : Nat → Int32} {tl : gx_H} {k : Nat}
theorem gc_at_o (hk : k < 12) : (gc_h n μ sp fo pc lp cl tk tc F tn tl)[5 + 3 * k]? = some (gc_o k (F k)) := by
  refine ga_12 (P := fun k => (gc_h n μ sp fo pc lp cl tk tc F tn tl)[5 + 3 * k]? = some (gc_o k (F k))) ?_ ?_ ?_ ?_ ?_ ?_ ?_ ?_ ?_ ?_ ?_ ?_ hk <;> rfl
theorem gc_at_w (hk : k < 12) : (gc_h n μ sp fo pc lp cl tk tc F tn tl)[6 + 3 * k]? = some (gc_w (F k)) := by
  refine ga_12 (P := fun k => (gc_h n μ sp fo pc lp cl tk tc F tn tl)[6 + 3 * k]? = some (gc_w (F k))) ?_ ?_ ?_ ?_ ?_ ?_ ?_ ?_ ?_ ?_ ?_ ?_ hk <;> rfl
theorem gc_at_c (hk : k < 12) : (gc_h n μ sp fo pc lp cl tk tc F tn tl)[7 + 3 * k]? = some (gc_c (F k)) := by
  refine ga_12 (P := fun k => (gc_h n μ sp fo pc lp cl tk tc F tn tl)[7 + 3 * k]? = some (gc_c (F k))) ?_ ?_ ?_ ?_ ?_ ?_ ?_ ?_ ?_ ?_ ?_ ?_ hk <;> rfl
theorem gc_set_o (hk : k < 12) (a b c : Nat) : (gc_h n μ sp fo pc lp cl tk tc F tn tl).set (5 + 3 * k) (gc_o k (a, b, c, (F k).2.2.2.1, (F k).2.2.2.2)) = (gc_h n μ sp fo pc lp cl tk tc (va_up F k (a, b, c, (F k).2.2.2.1, (F k).2.2.2.2)) tn tl) := by
  refine ga_12 (P := fun k => (gc_h n μ sp fo pc lp cl tk tc F tn tl).set (5 + 3 * k) (gc_o k (a, b, c, (F k).2.2.2.1, (F k).2.2.2.2)) = (gc_h n μ sp fo pc lp cl tk tc (va_up F k (a, b, c, (F k).2.2.2.1, (F k).2.2.2.2)) tn tl)) ?_ ?_ ?_ ?_ ?_ ?_ ?_ ?_ ?_ ?_ ?_ ?_ hk <;> rfl
theorem gc_set_w (hk : k < 12) (w : Nat → Nat) : (gc_h n μ sp fo pc lp cl tk tc F tn tl).set (6 + 3 * k) (.inl (0, 6, fun i => nI (w i))) = (gc_h n μ sp fo pc lp cl tk tc (va_up F k ((F k).1, (F k).2.1, (F k).2.2.1, w, (F k).2.2.2.2)) tn tl) := by
  refine ga_12 (P := fun k => (gc_h n μ sp fo pc lp cl tk tc F tn tl).set (6 + 3 * k) (.inl (0, 6, fun i => nI (w i))) = (gc_h n μ sp fo pc lp cl tk tc (va_up F k ((F k).1, (F k).2.1, (F k).2.2.1, w, (F k).2.2.2.2)) tn tl)) ?_ ?_ ?_ ?_ ?_ ?_ ?_ ?_ ?_ ?_ ?_ ?_ hk <;> rfl
theorem gc_set_c (hk : k < 12) (w : Nat → Nat) : (gc_h n μ sp fo pc lp cl tk tc F tn tl).set (7 + 3 * k) (.inl (0, 6, fun i => nI (w i))) = (gc_h n μ sp fo pc lp cl tk tc (va_up F k ((F k).1, (F k).2.1, (F k).2.2.1, (F k).2.2.2.1, w)) tn tl) := by
  refine ga_12 (P := fun k => (gc_h n μ sp fo pc lp cl tk tc F tn tl).set (7 + 3 * k) (.inl (0, 6, fun i => nI (w i))) = (gc_h n μ sp fo pc lp cl tk tc (va_up F k ((F k).1, (F k).2.1, (F k).2.2.1, (F k).2.2.2.1, w)) tn tl)) ?_ ?_ ?_ ?_ ?_ ?_ ?_ ?_ ?_ ?_ ?_ ?_ hk <;> rfl
theorem k_F_upTo {u x : Nat} {h : gx_H} (hu : u = 1 ∨ u = 2 ∨ u = 4) (hx : x < 2 ^ 30) : gx_call LL xs (d + 1) z_F_upTo 0 0 [.int (nI u), .int (nI x)] h (fun r h' => r = some (.int (nI (ga_up u x))) ∧ h' = h) := by
  refine gs_F_upTo _ _ (gx_run 9 (And.intro ?_ rfl))
  rw [ga_up_i hu hx]
theorem k_F_widthOfPair (hk : k < 12) {j : Nat} (hj : j < 6) : gx_call LL xs (d + 1) z_F_widthOfPair 0 0 [.ref (5 + 3 * k), .int (nI j)] (gc_h n μ sp fo pc lp cl tk tc F tn tl) (fun r h => r = some (.int (nI ((F k).2.2.2.1 j))) ∧ h = (gc_h n μ sp fo pc lp cl tk tc F tn tl)) := by
  refine gs_F_widthOfPair _ _ (gx_run 2 (And.intro (fun c => absurd c (nI_pos (by omega))) (fun _ => gx_run 3 (And.intro (fun c => absurd c (nI_ge hj (by omega))) (fun _ => gx_run 1 ?_)))))
  refine gx_getf rfl (gc_at_o hk) rfl (gx_run 1 (gx_iald rfl (gc_at_w hk) rfl hj (by omega) (gx_run 2 (And.intro rfl rfl))))
theorem k_F_countOfPair (hk : k < 12) {j : Nat} (hj : j < 6) : gx_call LL xs (d + 1) z_F_countOfPair 0 0 [.ref (5 + 3 * k), .int (nI j)] (gc_h n μ sp fo pc lp cl tk tc F tn tl) (fun r h => r = some (.int (nI ((F k).2.2.2.2 j))) ∧ h = (gc_h n μ sp fo pc lp cl tk tc F tn tl)) := by
  refine gs_F_countOfPair _ _ (gx_run 2 (And.intro (fun c => absurd c (nI_pos (by omega))) (fun _ => gx_run 3 (And.intro (fun c => absurd c (nI_ge hj (by omega))) (fun _ => gx_run 1 ?_)))))
  refine gx_getf rfl (gc_at_o hk) rfl (gx_run 1 (gx_iald rfl (gc_at_c hk) rfl hj (by omega) (gx_run 2 (And.intro rfl rfl))))
theorem k_F_isAccelerated (hk : k < 12) (hf : (F k).2.1 ≤ 3) : gx_call LL xs (d + 1) z_F_isAccelerated 0 0 [.ref (5 + 3 * k)] (gc_h n μ sp fo pc lp cl tk tc F tn tl) (fun r h => r = some (.int (if (F k).2.1 = 0 then nI 0 else nI 1)) ∧ h = (gc_h n μ sp fo pc lp cl tk tc F tn tl)) := by
  have e : nI (F k).2.1 = 0 ↔ (F k).2.1 = 0 := by rw [← nI_0]; exact nI_eq (by omega) (by omega)
  refine gs_F_isAccelerated _ (gx_run 1 (gx_getf rfl (gc_at_o hk) rfl (gx_run 1 (And.intro (fun c => gx_run 2 (And.intro (Or.inl rfl) (And.intro ?_ rfl))) (fun c => gx_run 3 (And.intro (Or.inr rfl) (And.intro ?_ rfl)))))))
  · rw [if_pos (e.mp c)]
  · rw [if_neg (fun h => c (e.mpr h))]
theorem k_F_hasFrameHead (hk : k < 12) (hf : (F k).1 ≤ 255) : gx_call LL xs (d + 1) z_F_hasFrameHead 0 0 [.ref (5 + 3 * k)] (gc_h n μ sp fo pc lp cl tk tc F tn tl) (fun r h => r = some (.int (if (F k).1 = 192 ∨ (F k).1 = 193 then nI 1 else nI 0)) ∧ h = (gc_h n μ sp fo pc lp cl tk tc F tn tl)) := by
  have e : ∀ c : Nat, c ≤ 255 → (nI (F k).1 = nI c ↔ (F k).1 = c) := fun c hc => nI_eq (by omega) (by omega)
  refine gs_F_hasFrameHead _ (gx_run 1 (gx_getf rfl (gc_at_o hk) rfl (gx_run 2 (And.intro (fun c => gx_run 3 (And.intro (Or.inr rfl) (And.intro ?_ rfl))) (fun c1 => gx_run 1 (gx_getf rfl (gc_at_o hk) rfl (gx_run 2 (And.intro (fun c => gx_run 2 (And.intro (Or.inl rfl) (And.intro ?_ rfl))) (fun c => gx_run 3 (And.intro (Or.inr rfl) (And.intro ?_ rfl)))))))))))
  · rw [if_pos (Or.inl ((e 192 (by omega)).mp c))]
  · rw [if_neg (fun h => h.elim (fun h => c1 ((e 192 (by omega)).mpr h)) (fun h => c ((e 193 (by omega)).mpr h)))]
  · rw [if_pos (Or.inr ((e 193 (by omega)).mp c))]
theorem k_F_takesPushed (hk : k < 12) (hf : (F k).1 ≤ 255) : gx_call LL xs (d + 1) z_F_takesPushed 0 0 [.ref (5 + 3 * k)] (gc_h n μ sp fo pc lp cl tk tc F tn tl) (fun r h => r = some (.int (if (F k).1 = 192 then nI 1 else nI 0)) ∧ h = (gc_h n μ sp fo pc lp cl tk tc F tn tl)) := by
  have e : nI (F k).1 = nI 192 ↔ (F k).1 = 192 := nI_eq (by omega) (by omega)
  refine gs_F_takesPushed _ (gx_run 1 (gx_getf rfl (gc_at_o hk) rfl (gx_run 2 (And.intro (fun c => gx_run 2 (And.intro (Or.inl rfl) (And.intro ?_ rfl))) (fun c => gx_run 3 (And.intro (Or.inr rfl) (And.intro ?_ rfl)))))))
  · rw [if_neg (fun h => c (e.mpr h))]
  · rw [if_pos (e.mp c)]
theorem k_F_begin (hk : k < 12) {hd : Nat} : gx_call LL xs (d + 1) z_F_begin 0 0 [.ref (5 + 3 * k), .int (nI hd)] (gc_h n μ sp fo pc lp cl tk tc F tn tl) (fun r h => r = none ∧ h = (gc_h n μ sp fo pc lp cl tk tc (va_up F k (hd, (F k).2.1, 0, (F k).2.2.2.1, (F k).2.2.2.2)) tn tl)) := by
  refine gs_F_begin _ _ (gx_run 2 (gx_putf rfl (gc_at_o hk) rfl (fun P hP => hP) ?_))
  have e1 := gc_set_o (n := n) (μ := μ) (sp := sp) (fo := fo) (pc := pc) (lp := lp) (cl := cl) (tk := tk) (tc := tc) (F := F) (tn := tn) (tl := tl) hk hd (F k).2.1 (F k).2.2.1
  refine gx_run 2 ?_
  show gx_E LL xs _ cd_F_begin _ 5 _ _ ((gc_h n μ sp fo pc lp cl tk tc F tn tl).set (5 + 3 * k) (gc_o k (hd, (F k).2.1, (F k).2.2.1, (F k).2.2.2.1, (F k).2.2.2.2))) 0 0
  rw [e1]
  refine gx_putf rfl (gc_at_o hk) rfl (fun P hP => hP) (gx_run 1 (And.intro rfl ?_))
  have e2 := gc_set_o (n := n) (μ := μ) (sp := sp) (fo := fo) (pc := pc) (lp := lp) (cl := cl) (tk := tk) (tc := tc) (F := va_up F k (hd, (F k).2.1, (F k).2.2.1, (F k).2.2.2.1, (F k).2.2.2.2)) (tn := tn) (tl := tl) hk hd (F k).2.1 0
  simp only [va_up_self, bx_uu] at e2 ⊢
  exact e2
theorem k_F_localCount_l (hk : k < 12) (hp : (F k).2.2.1 ≤ 6) : ∀ (m p : Nat), p + m = (F k).2.2.1 →
    gx_E LL xs (gx_call LL xs (d + 1)) cd_F_localCount (fun r h => r = some (.int (nI (ga_lc (F k).2.2.2.2 (F k).2.2.1))) ∧ h = (gc_h n μ sp fo pc lp cl tk tc F tn tl)) 4 [some (.ref (5 + 3 * k)), some (.int (nI (ga_lc (F k).2.2.2.2 p))), some (.int (nI p))] [] (gc_h n μ sp fo pc lp cl tk tc F tn tl) 0 0 := by
  intro m
  induction m with
  | zero =>
    intro p hm
    refine gx_run 2 (gx_getf rfl (gc_at_o hk) rfl (gx_run 1 (And.intro (fun _ => gx_run 2 (And.intro ?_ rfl)) (fun c => absurd (nI_le (show (F k).2.2.1 ≤ p by omega) (by omega)) c))))
    rw [show p = (F k).2.2.1 by omega]
  | succ m ih =>
    intro p hm
    refine gx_run 2 (gx_getf rfl (gc_at_o hk) rfl (gx_run 1 (And.intro (fun c => absurd c (nI_ge (show p < (F k).2.2.1 by omega) (by omega))) (fun _ => gx_run 8 (And.intro ⟨_, gc_at_o hk⟩ (gx_c1 (gx_le8 rfl) (k_F_countOfPair hk (by omega)) ?_))))))
    have h9 := ih (p + 1) (by omega)
    rw [show ga_lc (F k).2.2.2.2 (p + 1) = ga_lc (F k).2.2.2.2 p + (F k).2.2.2.2 p from rfl, ← nI_add, ← nI_add] at h9
    exact h9
theorem k_F_localCount (hk : k < 12) (hp : (F k).2.2.1 ≤ 6) : gx_call LL xs (d + 2) z_F_localCount 0 0 [.ref (5 + 3 * k)] (gc_h n μ sp fo pc lp cl tk tc F tn tl) (fun r h => r = some (.int (nI (ga_lc (F k).2.2.2.2 (F k).2.2.1))) ∧ h = (gc_h n μ sp fo pc lp cl tk tc F tn tl)) :=
  gs_F_localCount _ (gx_run 4 (k_F_localCount_l hk hp _ 0 (Nat.zero_add _)))
theorem k_F_localsBegin (hk : k < 12) (hp : (F k).2.2.1 ≤ 6) : gx_call LL xs (d + 2) z_F_localsBegin 0 0 [.ref (5 + 3 * k)] (gc_h n μ sp fo pc lp cl tk tc F tn tl) (fun r h => r = some (.int (nI (ga_lb (F k)))) ∧ h = (gc_h n μ sp fo pc lp cl tk tc F tn tl)) := by
  have hc : gx_call LL xs (d + 1) z_F_upTo 0 0 [.int (nI 4), .int (nI 8 + nI 2 * nI (F k).2.2.1 + nI 2)] (gc_h n μ sp fo pc lp cl tk tc F tn tl) (fun r h => r = some (.int (nI (ga_lb (F k)))) ∧ h = (gc_h n μ sp fo pc lp cl tk tc F tn tl)) := by
    rw [pk_mul, nI_add, nI_add, show 8 + 2 * (F k).2.2.1 + 2 = 10 + 2 * (F k).2.2.1 by omega]
    exact k_F_upTo (Or.inr (Or.inr rfl)) (by omega)
  exact gs_F_localsBegin _ (gx_run 4 (gx_getf rfl (gc_at_o hk) rfl (gx_run 7 (gx_c1 (gx_le8 rfl) hc (And.intro rfl rfl)))))
theorem k_F_frameLength_l (hk : k < 12) (hw : ga_wf (F k)) : ∀ (m p at_ : Nat) (w0 : Option Value), p + m = (F k).2.2.1 → at_ + m * 1024 ≤ 10000 →
    gx_E LL xs (gx_call LL xs (d + 2)) cd_F_frameLength (fun r h => r = some (.int (nI (ga_up 4 (ga_fl (F k).2.2.2.1 (F k).2.2.2.2 p m at_)))) ∧ h = (gc_h n μ sp fo pc lp cl tk tc F tn tl)) 5 [some (.ref (5 + 3 * k)), some (.int (nI at_)), some (.int (nI p)), w0] [] (gc_h n μ sp fo pc lp cl tk tc F tn tl) 0 0 := by
  obtain ⟨-, -, h6, hwf⟩ := hw
  intro m
  induction m with
  | zero =>
    intro p at_ w0 hm hb
    refine gx_run 2 (gx_getf rfl (gc_at_o hk) rfl (gx_run 1 (And.intro (fun _ => gx_run 4 (gx_c1 (gx_le8 rfl) (k_F_upTo (Or.inr (Or.inr rfl)) (by omega)) (And.intro rfl rfl))) (fun c => absurd (nI_le (show (F k).2.2.1 ≤ p by omega) (by omega)) c))))
  | succ m ih =>
    intro p at_ w0 hm hb
    have hpw := hwf p (by omega)
    have hm1 := ga_mul_le hpw.1 hpw.2.2
    have hu := ga_up_lt (u := (F k).2.2.2.1 p) (x := at_) (by omega)
    refine gx_run 2 (gx_getf rfl (gc_at_o hk) rfl (gx_run 1 (And.intro (fun c => absurd c (nI_ge (show p < (F k).2.2.1 by omega) (by omega))) (fun _ => gx_run 16 (And.intro ⟨_, gc_at_o hk⟩ (gx_c1 (gx_le8 rfl) (k_F_widthOfPair hk (by omega))
      (gx_c1 (gx_le8 rfl) (k_F_upTo hpw.1 (by omega)) (And.intro ⟨_, gc_at_o hk⟩ (gx_c1 (gx_le8 rfl) (k_F_countOfPair hk (by omega)) ?_)))))))))
    have h9 := ih (p + 1) (ga_up ((F k).2.2.2.1 p) at_ + (F k).2.2.2.2 p * (F k).2.2.2.1 p) (some (.int (nI ((F k).2.2.2.1 p)))) (by omega) (by omega)
    rw [← nI_add p 1, ← nI_add, ← pk_mul] at h9
    exact h9
theorem ga_lb_le {f : ga_F} (h : f.2.2.1 ≤ 6) : ga_lb f ≤ 28 := by
  unfold ga_lb
  have := ga_up_lt (u := 4) (x := 10 + 2 * f.2.2.1) (by decide)
  omega
theorem k_F_frameLength (hk : k < 12) (hw : ga_wf (F k)) : gx_call LL xs (d + 3) z_F_frameLength 0 0 [.ref (5 + 3 * k)] (gc_h n μ sp fo pc lp cl tk tc F tn tl) (fun r h => r = some (.int (nI (ga_len (F k)))) ∧ h = (gc_h n μ sp fo pc lp cl tk tc F tn tl)) := by
  have h1 := ga_lb_le hw.2.2.1
  have h2 := hw.2.2.1
  exact gs_F_frameLength _ (gx_run 5 (And.intro ⟨_, gc_at_o hk⟩ (gx_c1 (gx_le8 rfl) (k_F_localsBegin hk hw.2.2.1) (k_F_frameLength_l hk hw _ 0 (ga_lb (F k)) none (Nat.zero_add _) (by omega)))))
theorem ga_fl_b {f : ga_F} (hw : ga_wf f) : ga_fl f.2.2.2.1 f.2.2.2.2 0 f.2.2.1 (ga_lb f) ≤ 6200 := by
  have h1 := ga_lb_le hw.2.2.1
  have h2 := ga_fl_le (wd := f.2.2.2.1) (ct := f.2.2.2.2) (i := 0) (m := f.2.2.1) (at_ := ga_lb f) (fun j _ hj => ⟨(hw.2.2.2 j (by omega)).1, (hw.2.2.2 j (by omega)).2.2⟩)
  have := hw.2.2.1
  omega
theorem ga_len_le {f : ga_F} (hw : ga_wf f) : ga_len f ≤ 6300 := by
  have h1 := ga_fl_b hw
  have := ga_up_lt (u := 4) (x := ga_fl f.2.2.2.1 f.2.2.2.2 0 f.2.2.1 (ga_lb f)) (by decide)
  unfold ga_len
  omega
/-- how many bytes a frame has with so many arguments -/
def ga_room (f : ga_F) (m : Nat) : Nat := ga_len f + (if f.1 = 192 then 4 * (m + 1) else 0)
theorem k_F_bytesWith (hk : k < 12) (hw : ga_wf (F k)) {m : Nat} : gx_call LL xs (d + 4) z_F_bytesWith 0 0 [.ref (5 + 3 * k), .int (nI m)] (gc_h n μ sp fo pc lp cl tk tc F tn tl) (fun r h => r = some (.int (nI (ga_room (F k) m))) ∧ h = (gc_h n μ sp fo pc lp cl tk tc F tn tl)) := by
  refine gs_F_bytesWith _ _ (gx_run 3 (And.intro ⟨_, gc_at_o hk⟩ (gx_c1 (gx_le8 rfl) (k_F_takesPushed hk hw.1) ?_)))
  by_cases h : (F k).1 = 192
  · rw [if_pos h]
    refine And.intro (fun c => absurd c (by decide)) (fun _ => gx_run 10 (And.intro ⟨_, gc_at_o hk⟩ (gx_c1 (gx_le8 rfl) (k_F_frameLength hk hw) (And.intro ?_ rfl))))
    unfold ga_room
    rw [nI_add m 1, pk_mul, nI_add, if_pos h]
  · rw [if_neg h]
    refine And.intro (fun _ => gx_run 3 (And.intro ⟨_, gc_at_o hk⟩ (gx_c1 (gx_le8 rfl) (k_F_frameLength hk hw) (And.intro ?_ rfl)))) (fun c => absurd rfl c)
    unfold ga_room
    rw [if_neg h]
    rfl
theorem k_F_placeOfLocal_l (hk : k < 12) (hw : ga_wf (F k)) : ∀ (m p at_ left : Nat) (x0 : Value) (w0 : Option Value), p + m = (F k).2.2.1 → at_ + m * 1024 ≤ 10000 → left < 2147483648 →
    gx_E LL xs (gx_call LL xs (d + 1)) cd_F_placeOfLocal (fun r h => r = some (.int (ga_fp (ga_pl (F k).2.2.2.1 (F k).2.2.2.2 p m at_ left))) ∧ h = (gc_h n μ sp fo pc lp cl tk tc F tn tl)) 6 [some (.ref (5 + 3 * k)), some x0, some (.int (nI at_)), some (.int (nI left)), some (.int (nI p)), w0] [] (gc_h n μ sp fo pc lp cl tk tc F tn tl) 0 0 := by
  obtain ⟨-, -, h6, hwf⟩ := hw
  intro m
  induction m with
  | zero =>
    intro p at_ left x0 w0 hm hb hl
    refine gx_run 2 (gx_getf rfl (gc_at_o hk) rfl (gx_run 1 (And.intro (fun _ => gx_run 2 (And.intro rfl rfl)) (fun c => absurd (nI_le (show (F k).2.2.1 ≤ p by omega) (by omega)) c))))
  | succ m ih =>
    intro p at_ left x0 w0 hm hb hl
    have hpw := hwf p (by omega)
    have hm1 := ga_mul_le hpw.1 hpw.2.2
    have hu := ga_up_lt (u := (F k).2.2.2.1 p) (x := at_) (by omega)
    have e0 : ga_pl (F k).2.2.2.1 (F k).2.2.2.2 p (m + 1) at_ left = if left < (F k).2.2.2.2 p then some (ga_up ((F k).2.2.2.1 p) at_ + left * (F k).2.2.2.1 p) else ga_pl (F k).2.2.2.1 (F k).2.2.2.2 (p + 1) m (ga_up ((F k).2.2.2.1 p) at_ + (F k).2.2.2.2 p * (F k).2.2.2.1 p) (left - (F k).2.2.2.2 p) := rfl
    rw [e0]
    refine gx_run 2 (gx_getf rfl (gc_at_o hk) rfl (gx_run 1 (And.intro (fun c => absurd c (nI_ge (show p < (F k).2.2.1 by omega) (by omega))) (fun _ => ?_))))
    refine gx_run 2 (And.intro (fun c => absurd c (nI_pos (by omega))) (fun _ => ?_))
    refine gx_run 13 (And.intro ⟨_, gc_at_o hk⟩ (gx_c1 (gx_le8 rfl) (k_F_widthOfPair hk (show p < 6 by omega)) ?_))
    refine gx_c1 (gx_le8 rfl) (k_F_upTo hpw.1 (show at_ < 2 ^ 30 by omega)) ?_
    refine And.intro ⟨_, gc_at_o hk⟩ (gx_c1 (gx_le8 rfl) (k_F_countOfPair hk (show p < 6 by omega)) ?_)
    refine And.intro (fun c => ?_) (fun c => ?_)
    · have hc : (F k).2.2.2.2 p ≤ left := (nI_leI (by omega) (by omega)).mp c
      rw [if_neg (Nat.not_lt.mpr hc)]
      refine gx_run 16 (And.intro ⟨_, gc_at_o hk⟩ (gx_c1 (gx_le8 rfl) (k_F_countOfPair hk (by omega)) (And.intro ⟨_, gc_at_o hk⟩ (gx_c1 (gx_le8 rfl) (k_F_countOfPair hk (by omega)) ?_))))
      have h9 := ih (p + 1) (ga_up ((F k).2.2.2.1 p) at_ + (F k).2.2.2.2 p * (F k).2.2.2.1 p) (left - (F k).2.2.2.2 p) x0 (some (.int (nI ((F k).2.2.2.1 p)))) (by omega) (by omega) (by omega)
      rw [← nI_add p 1, ← nI_add (ga_up _ _), ← pk_mul, ← pk_sub hc] at h9
      exact h9
    · have hc : left < (F k).2.2.2.2 p := by
        rcases Nat.lt_or_ge left ((F k).2.2.2.2 p) with h | h
        · exact h
        · exact absurd (nI_le h (by omega)) c
      rw [if_pos hc]
      refine gx_run 6 (And.intro ?_ rfl)
      rw [pk_mul, nI_add]
      rfl
theorem k_F_placeOfLocal (hk : k < 12) (hw : ga_wf (F k)) {q : Nat} (hq : q < 2147483648) : gx_call LL xs (d + 2) z_F_placeOfLocal 0 0 [.ref (5 + 3 * k), .int (nI q)] (gc_h n μ sp fo pc lp cl tk tc F tn tl) (fun r h => r = some (.int (ga_fp (ga_pl (F k).2.2.2.1 (F k).2.2.2.2 0 (F k).2.2.1 0 q))) ∧ h = (gc_h n μ sp fo pc lp cl tk tc F tn tl)) := by
  have := hw.2.2.1
  exact gs_F_placeOfLocal _ _ (gx_run 6 (k_F_placeOfLocal_l hk hw _ 0 0 q _ none (Nat.zero_add _) (by omega) hq))
theorem k_F_placeOfLocal_n (hk : k < 12) {x : Int32} (hx : x < 0) : gx_call LL xs (d + 1) z_F_placeOfLocal 0 0 [.ref (5 + 3 * k), .int x] (gc_h n μ sp fo pc lp cl tk tc F tn tl) (fun r h => r = some (.int (-(nI 1))) ∧ h = (gc_h n μ sp fo pc lp cl tk tc F tn tl)) := by
  refine gs_F_placeOfLocal _ _ (gx_run 8 (gx_getf rfl (gc_at_o hk) rfl (gx_run 1 (And.intro (fun _ => gx_run 2 (And.intro rfl rfl)) (fun c => gx_run 2 (And.intro (fun _ => gx_run 2 (And.intro rfl rfl)) (fun c => absurd hx c)))))))
theorem k_F_addPair (hk : k < 12) (hp : (F k).2.2.1 ≤ 6) {w c : Nat} : gx_call LL xs (d + 1) z_F_addPair 0 0 [.ref (5 + 3 * k), .int (nI w), .int (nI c)] (gc_h n μ sp fo pc lp cl tk tc F tn tl) (fun r h => r = some (.int (if (F k).2.2.1 < 6 then nI ((F k).2.2.1 + 1) else -(nI 1))) ∧
    h = (gc_h n μ sp fo pc lp cl tk tc (if (F k).2.2.1 < 6 then va_up F k ((F k).1, (F k).2.1, (F k).2.2.1 + 1, va_up (F k).2.2.2.1 (F k).2.2.1 w, va_up (F k).2.2.2.2 (F k).2.2.1 c) else F) tn tl)) := by
  have e6 : nI (F k).2.2.1 < nI 6 ↔ (F k).2.2.1 < 6 := nI_ltI (by omega) (by omega)
  refine gs_F_addPair _ _ _ (gx_run 1 (gx_getf rfl (gc_at_o hk) rfl (gx_run 1 (And.intro (fun c => absurd c (nI_pos (by omega))) (fun _ => gx_run 1 (gx_getf rfl (gc_at_o hk) rfl (gx_run 2 (And.intro (fun c6 => ?_) (fun c6 => gx_run 2 (And.intro ?_ ?_))))))))))
  · have hp6 := e6.mp c6
    rw [if_pos hp6, if_pos hp6]
    refine gx_run 1 (gx_getf rfl (gc_at_o hk) rfl (gx_run 1 (gx_getf rfl (gc_at_o hk) rfl (gx_run 1 (gx_iast rfl (gc_at_w hk) rfl hp6 (by omega) ?_)))))
    rw [gm_byte, gc_set_w hk]
    refine gx_run 1 (gx_getf rfl (gc_at_o hk) rfl (gx_run 1 (gx_getf rfl (gc_at_o hk) rfl (gx_run 1 ?_))))
    simp only [va_up_self]
    refine gx_iast rfl (gc_at_c hk) rfl hp6 (by omega) ?_
    simp only [va_up_self]
    rw [gm_byte, gc_set_c hk]
    simp only [va_up_self, bx_uu]
    refine gx_run 2 (gx_getf rfl (gc_at_o hk) rfl (gx_run 2 (gx_putf rfl (gc_at_o hk) rfl (fun P hP => hP) ?_)))
    have e9 := gc_set_o (n := n) (μ := μ) (sp := sp) (fo := fo) (pc := pc) (lp := lp) (cl := cl) (tk := tk) (tc := tc) (F := va_up F k ((F k).1, (F k).2.1, (F k).2.2.1, va_up (F k).2.2.2.1 (F k).2.2.1 w, va_up (F k).2.2.2.2 (F k).2.2.1 c)) (tn := tn) (tl := tl) hk (F k).1 (F k).2.1 ((F k).2.2.1 + 1)
    simp only [va_up_self, bx_uu] at e9 ⊢
    rw [nI_add]
    show gx_E LL xs _ cd_F_addPair _ 27 _ _ ((gc_h n μ sp fo pc lp cl tk tc (va_up F k ((F k).1, (F k).2.1, (F k).2.2.1, va_up (F k).2.2.2.1 (F k).2.2.1 w, va_up (F k).2.2.2.2 (F k).2.2.1 c)) tn tl).set (5 + 3 * k) (gc_o k ((F k).1, (F k).2.1, (F k).2.2.1 + 1, va_up (F k).2.2.2.1 (F k).2.2.1 w, va_up (F k).2.2.2.2 (F k).2.2.1 c))) 0 0
    rw [e9]
    refine gx_run 1 (gx_getf rfl (gc_at_o hk) rfl (gx_run 1 (And.intro ?_ rfl)))
    simp only [va_up_self]
  · rw [if_neg (fun h => c6 (e6.mpr h))]
  · rw [if_neg (fun h => c6 (e6.mpr h))]
end GCF
