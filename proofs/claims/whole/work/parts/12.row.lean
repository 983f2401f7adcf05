/-! The class Row. -/
section GCR
variable {LL : Nat} {xs : Nat → Int32} {d : Nat} {n : Nat} {μ : Nat → Nat} {sp : Nat} {fo : Option Nat} {pc lp : Int32} {cl : Nat → Int32} {tk : Nat → Nat} {tc : Nat} {F : Nat → ga_F} {tn : Nat → Int32} {tl : gx_H}
theorem k_R_size : gx_call LL xs (d + 1) z_R_size 0 0 [.ref 3] (gc_h n μ sp fo pc lp cl tk tc F tn tl) (fun r h => r = some (.int (nI n)) ∧ h = (gc_h n μ sp fo pc lp cl tk tc F tn tl)) :=
  gs_R_size _ (gx_run 4 (And.intro rfl rfl))
theorem k_R_end : gx_call LL xs (d + 1) z_R_end 0 0 [.ref 3] (gc_h n μ sp fo pc lp cl tk tc F tn tl) (fun r h => r = some (.int (nI sp)) ∧ h = (gc_h n μ sp fo pc lp cl tk tc F tn tl)) :=
  gs_R_end _ (gx_run 3 (And.intro rfl rfl))
theorem k_R_reaches (x : Int32) : gx_call LL xs (d + 1) z_R_reaches 0 0 [.ref 3, .int x] (gc_h n μ sp fo pc lp cl tk tc F tn tl) (fun r h => r = some (.int (if nI n < x then nI 0 else nI 1)) ∧ h = (gc_h n μ sp fo pc lp cl tk tc F tn tl)) := by
  refine gs_R_reaches _ _ (gx_run 5 (And.intro (fun c => gx_run 2 (And.intro (Or.inl rfl) (And.intro ?_ rfl))) (fun c => gx_run 3 (And.intro (Or.inr rfl) (And.intro ?_ rfl)))))
  · rw [if_pos c]
  · rw [if_neg c]
theorem k_R_byteOrZero {j : Nat} (hj : j < n) (hn : n < 2147483648) (hμ : ∀ i, μ i < 256) : gx_call LL xs (d + 1) z_R_byteOrZero 0 0 [.ref 3, .int (nI j)] (gc_h n μ sp fo pc lp cl tk tc F tn tl) (fun r h => r = some (.int (nI (μ j))) ∧ h = (gc_h n μ sp fo pc lp cl tk tc F tn tl)) := by
  refine gs_R_byteOrZero _ _ (gx_run 2 (And.intro (fun c => absurd c (nI_pos (by omega))) (fun _ => gx_run 5 (And.intro (fun c => absurd c (nI_ge hj (by omega))) (fun _ => gx_run 8 (gx_ar j rfl hj hn (And.intro ?_ rfl)))))))
  rw [ga_sb (hμ j)]
theorem k_R_setByte {j : Nat} {v : Int32} (hj : j < n) (hn : n < 2147483648) : gx_call LL xs (d + 1) z_R_setByte 0 0 [.ref 3, .int (nI j), .int v] (gc_h n μ sp fo pc lp cl tk tc F tn tl) (fun r h => r = none ∧ h = (gc_h n (va_up μ j (ga_lo v)) sp fo pc lp cl tk tc F tn tl)) := by
  refine gs_R_setByte _ _ _ (gx_run 2 (And.intro (fun c => absurd c (nI_pos (by omega))) (fun _ => gx_run 5 (And.intro (fun c => absurd c (nI_ge hj (by omega))) (fun _ => gx_run 7 (gx_ar j rfl hj hn (And.intro rfl ?_)))))))
  rw [gc_byte2]
  rfl
theorem k_R_number_l {a w : Nat} (hw : a + w ≤ n) (hn : n < 2147483648) (hμ : ∀ i, μ i < 256) : ∀ (m k : Nat), k + m = w →
    gx_E LL xs (gx_call LL xs (d + 1)) cd_R_number (fun r h => r = some (.int (ga_rd μ a w)) ∧ h = (gc_h n μ sp fo pc lp cl tk tc F tn tl)) 4 [some (.ref 3), some (.int (nI a)), some (.int (nI w)), some (.int (ga_rd μ a k)), some (.int (nI k))] [] (gc_h n μ sp fo pc lp cl tk tc F tn tl) 0 0 := by
  intro m
  induction m with
  | zero =>
    intro k hk
    obtain rfl : k = w := by omega
    exact gx_run 3 (And.intro (fun _ => gx_run 2 (And.intro rfl rfl)) (fun c => absurd (nI_le (Nat.le_refl k) (by omega)) c))
  | succ m ih =>
    intro k hk
    refine gx_run 3 (And.intro (fun c => absurd c (nI_ge (show k < w by omega) (by omega))) (fun _ => gx_run 12 (And.intro ⟨_, rfl⟩ (gx_c1 (gx_le8 rfl) (by rw [nI_add]; exact k_R_byteOrZero (by omega) hn hμ) ?_))))
    have h9 := ih (k + 1) (by omega)
    rw [← nI_add k 1] at h9
    exact h9
theorem k_R_number {a w : Nat} (hw : a + w ≤ n) (hn : n < 2147483648) (hμ : ∀ i, μ i < 256) : gx_call LL xs (d + 2) z_R_number 0 0 [.ref 3, .int (nI a), .int (nI w)] (gc_h n μ sp fo pc lp cl tk tc F tn tl) (fun r h => r = some (.int (ga_rd μ a w)) ∧ h = (gc_h n μ sp fo pc lp cl tk tc F tn tl)) :=
  gs_R_number _ _ _ (gx_run 4 (k_R_number_l hw hn hμ w 0 (Nat.zero_add w)))
theorem k_R_set_l {a w : Nat} (hw : a + w ≤ n) (hn : n < 2147483648) : ∀ (k : Nat) (μ : Nat → Nat) (v : Int32) (w0 v0 : Int32) , k ≤ w →
    gx_E LL xs (gx_call LL xs (d + 1)) cd_R_set (fun r h => r = none ∧ h = (gc_h n (ga_wr μ a k v) sp fo pc lp cl tk tc F tn tl)) 6 [some (.ref 3), some (.int (nI a)), some (.int w0), some (.int v0), some (.int v), some (.int (nI k - nI 1))] [] (gc_h n μ sp fo pc lp cl tk tc F tn tl) 0 0 := by
  intro k
  induction k with
  | zero =>
    intro μ v w0 v0 hk
    exact gx_run 2 (And.intro (fun _ => gx_run 1 (And.intro rfl rfl)) (fun c => absurd (by decide) c))
  | succ k ih =>
    intro μ v w0 v0 hk
    have e1 : nI (k + 1) - nI 1 = nI k := pk_sub (Nat.le_add_left 1 k)
    rw [e1]
    refine gx_run 2 (And.intro (fun c => absurd c (nI_pos (by omega))) (fun _ => gx_run 12 (And.intro ⟨_, rfl⟩ (gx_c1 (gx_le8 rfl) (by rw [nI_add]; exact k_R_setByte (by omega) hn) ?_))))
    exact ih (va_up μ (a + k) (ga_lo v)) (v >>> (nI 8 &&& 31)) w0 v0 (by omega)
theorem k_R_set {a w : Nat} {v : Int32} (hw : a + w ≤ n) (hn : n < 2147483648) : gx_call LL xs (d + 2) z_R_set 0 0 [.ref 3, .int (nI a), .int (nI w), .int v] (gc_h n μ sp fo pc lp cl tk tc F tn tl) (fun r h => r = none ∧ h = (gc_h n (ga_wr μ a w v) sp fo pc lp cl tk tc F tn tl)) :=
  gs_R_set _ _ _ _ (gx_run 6 (k_R_set_l hw hn w μ v _ _ (Nat.le_refl w)))
theorem k_R_appendZeros_l {m : Nat} (hw : sp + m ≤ n) (hn : n < 2147483648) : ∀ (q k : Nat), k + q = m →
    gx_E LL xs (gx_call LL xs (d + 1)) cd_R_appendZeros (fun r h => r = none ∧ h = (gc_h n (ga_z μ sp m) (sp + m) fo pc lp cl tk tc F tn tl)) 2 [some (.ref 3), some (.int (nI m)), some (.int (nI k))] [] (gc_h n (ga_z μ sp k) (sp + k) fo pc lp cl tk tc F tn tl) 0 0 := by
  intro q
  induction q with
  | zero =>
    intro k hk
    obtain rfl : k = m := by omega
    exact gx_run 3 (And.intro (fun _ => gx_run 1 (And.intro rfl rfl)) (fun c => absurd (nI_le (Nat.le_refl k) (by omega)) c))
  | succ q ih =>
    intro k hk
    refine gx_run 3 (And.intro (fun c => absurd c (nI_ge (show k < m by omega) (by omega))) (fun _ => gx_run 6 (And.intro (fun c => absurd c (nI_ge (show sp + k < n by omega) (by omega))) (fun _ => gx_run 13 (And.intro ⟨_, rfl⟩ (gx_c1 (gx_le8 rfl) (k_R_setByte (show sp + k < n by omega) hn) ?_))))))
    have h9 := ih (k + 1) (by omega)
    rw [← ga_z_s, ← nI_add k 1, ← Nat.add_assoc] at h9
    have h8 : (gc_h n (va_up (ga_z μ sp k) (sp + k) (ga_lo (nI 0))) (sp + k) fo pc lp cl tk tc F tn tl).set 3 (.inr (.inr (1, [.ref 4, .int (nI (sp + k) + nI 1)]))) = (gc_h n (va_up (ga_z μ sp k) (sp + k) 0) (sp + k + 1) fo pc lp cl tk tc F tn tl) := by
      rw [nI_add]
      rfl
    rw [← h8] at h9
    exact h9
theorem k_R_appendZeros {m : Nat} (hw : sp + m ≤ n) (hn : n < 2147483648) : gx_call LL xs (d + 2) z_R_appendZeros 0 0 [.ref 3, .int (nI m)] (gc_h n μ sp fo pc lp cl tk tc F tn tl) (fun r h => r = none ∧ h = (gc_h n (ga_z μ sp m) (sp + m) fo pc lp cl tk tc F tn tl)) := by
  have h9 := k_R_appendZeros_l (LL := LL) (xs := xs) (d := d) (n := n) (μ := μ) (sp := sp) (fo := fo) (pc := pc) (lp := lp) (cl := cl) (tk := tk) (tc := tc) (F := F) (tn := tn) (tl := tl) hw hn m 0 (Nat.zero_add m)
  rw [ga_z_0] at h9
  exact gs_R_appendZeros _ _ (gx_run 2 h9)
theorem k_R_append {v : Int32} (hw : sp + 4 ≤ n) (hn : n < 2147483648) : gx_call LL xs (d + 3) z_R_append 0 0 [.ref 3, .int v] (gc_h n μ sp fo pc lp cl tk tc F tn tl) (fun r h => r = none ∧ h = (gc_h n (ga_wr μ sp 4 v) (sp + 4) fo pc lp cl tk tc F tn tl)) := by
  refine gs_R_append _ _ (gx_run 12 (And.intro ⟨_, rfl⟩ (gx_c1 (gx_le8 rfl) (k_R_appendZeros hw hn) (And.intro ⟨_, rfl⟩ (gx_c1 (gx_le8 rfl) (k_R_set hw hn) (And.intro rfl ?_))))))
  rw [ga_wr_z]
theorem k_R_cutTo {p : Nat} (hp : p ≤ sp) (hs : sp < 2147483648) : gx_call LL xs (d + 1) z_R_cutTo 0 0 [.ref 3, .int (nI p)] (gc_h n μ sp fo pc lp cl tk tc F tn tl) (fun r h => r = none ∧ h = (gc_h n μ p fo pc lp cl tk tc F tn tl)) :=
  gs_R_cutTo _ _ (gx_run 2 (And.intro (fun c => absurd c (nI_pos (by omega))) (fun _ => gx_run 4 (And.intro (fun c => absurd c (nI_nlt hp (by omega))) (fun _ => gx_run 4 (And.intro rfl rfl))))))
end GCR
