/-! The class's own small methods. -/
def ga_b (b : Bool) : Int32 := match b with
  | true => nI 1
  | false => nI 0
/-- whether a place of some width lies in a frame's locals -/
def ga_il (μ : Nat → Nat) (f : Nat) (place w : Int32) : Bool := !(decide (place < 0)) && !(decide (nI (ga_w μ f - ga_w μ (f + 4)) - w < place))
section GCI
variable {LL : Nat} {xs : Nat → Int32} {d : Nat} {n : Nat} {μ : Nat → Nat} {sp : Nat} {fo : Option Nat} {pc lp : Int32} {cl : Nat → Int32} {tk : Nat → Nat} {tc : Nat} {F : Nat → ga_F} {tn : Nat → Int32} {tl : gx_H}
theorem k_G_functionOf {k : Nat} (hk : k < 12) : gx_call LL xs (d + 1) z_G_functionOf 0 0 [.ref 0, .int (nI k)] (gc_h n μ sp fo pc lp cl tk tc F tn tl) (fun r h => r = some (.ref (5 + 3 * k)) ∧ h = (gc_h n μ sp fo pc lp cl tk tc F tn tl)) := by
  have hg : gc_g k = some (5 + 3 * k) := if_pos hk
  refine gs_G_functionOf _ _ (gx_run 2 (And.intro (fun c => absurd c (nI_pos (by omega))) (fun _ => gx_run 5 (And.intro (fun c => absurd c (nI_ge hk (by omega))) (fun _ => gx_run 4 (gx_ar k rfl hk (by omega) ?_))))))
  rw [hg]
  exact gx_run 2 (And.intro rfl rfl)
theorem k_G_functionOf_n {x : Int32} (hx : x < 0 ∨ nI 12 ≤ x) : gx_call LL xs (d + 1) z_G_functionOf 0 0 [.ref 0, .int x] (gc_h n μ sp fo pc lp cl tk tc F tn tl) (fun r h => r = some .null ∧ h = (gc_h n μ sp fo pc lp cl tk tc F tn tl)) := by
  refine gs_G_functionOf _ _ (gx_run 2 (And.intro (fun _ => gx_run 2 (And.intro rfl rfl)) (fun c => gx_run 5 (And.intro (fun _ => gx_run 2 (And.intro rfl rfl)) (fun c2 => ?_)))))
  rcases hx with hx | hx
  · exact absurd hx c
  · exact absurd hx c2
theorem k_G_isWidth (x : Int32) {h : gx_H} : gx_call LL xs (d + 1) z_G_isWidth 0 0 [.int x] h (fun r h' => r = some (.int (if x = nI 1 ∨ x = nI 2 ∨ x = nI 4 then nI 1 else nI 0)) ∧ h' = h) := by
  refine gs_G_isWidth _ (gx_run 3 (And.intro (fun c => gx_run 3 (And.intro (Or.inr rfl) (And.intro ?_ rfl))) (fun c1 => gx_run 3 (And.intro (fun c => gx_run 3 (And.intro (Or.inr rfl) (And.intro ?_ rfl))) (fun c2 => gx_run 3 (And.intro (fun c => gx_run 2 (And.intro (Or.inl rfl) (And.intro ?_ rfl))) (fun c => gx_run 3 (And.intro (Or.inr rfl) (And.intro ?_ rfl)))))))))
  · rw [if_pos (Or.inl c)]
  · rw [if_pos (Or.inr (Or.inl c))]
  · rw [if_neg (by rintro (h | h | h) <;> contradiction)]
  · rw [if_pos (Or.inr (Or.inr c))]
theorem k_G_isWay (x : Int32) {h : gx_H} : gx_call LL xs (d + 1) z_G_isWay 0 0 [.int x] h (fun r h' => r = some (.int (if x < 0 ∨ nI 3 < x then nI 0 else nI 1)) ∧ h' = h) := by
  refine gs_G_isWay _ (gx_run 2 (And.intro (fun c => gx_run 2 (And.intro (Or.inl rfl) (And.intro ?_ rfl))) (fun c1 => gx_run 3 (And.intro (fun c => gx_run 2 (And.intro (Or.inl rfl) (And.intro ?_ rfl))) (fun c => gx_run 3 (And.intro (Or.inr rfl) (And.intro ?_ rfl)))))))
  · rw [if_pos (Or.inl c)]
  · rw [if_pos (Or.inr c)]
  · rw [if_neg (by rintro (h | h) <;> contradiction)]
theorem k_G_isCell (x : Int32) {h : gx_H} : gx_call LL xs (d + 1) z_G_isCell 0 0 [.int x] h (fun r h' => r = some (.int (if x < 0 ∨ nI 16 ≤ x then nI 0 else nI 1)) ∧ h' = h) := by
  refine gs_G_isCell _ (gx_run 2 (And.intro (fun c => gx_run 2 (And.intro (Or.inl rfl) (And.intro ?_ rfl))) (fun c1 => gx_run 3 (And.intro (fun c => gx_run 2 (And.intro (Or.inl rfl) (And.intro ?_ rfl))) (fun c => gx_run 3 (And.intro (Or.inr rfl) (And.intro ?_ rfl)))))))
  · rw [if_pos (Or.inl c)]
  · rw [if_pos (Or.inr c)]
  · rw [if_neg (by rintro (h | h) <;> contradiction)]
theorem k_G_isFrame (x : Int32) {h : gx_H} : gx_call LL xs (d + 1) z_G_isFrame 0 0 [.int x] h (fun r h' => r = some (.int (if x = -(nI 1) then nI 0 else nI 1)) ∧ h' = h) := by
  refine gs_G_isFrame _ (gx_run 3 (And.intro (fun c => gx_run 2 (And.intro (Or.inl rfl) (And.intro ?_ rfl))) (fun c => gx_run 3 (And.intro (Or.inr rfl) (And.intro ?_ rfl)))))
  · rw [if_pos c]
  · rw [if_neg c]
theorem k_G_valuesAt {f : Nat} (hf : f + 4 ≤ n) (hn : n < 2147483648) (hμ : ∀ i, μ i < 256) : gx_call LL xs (d + 3) z_G_valuesAt 0 0 [.ref 0, .int (nI f)] (gc_h n μ sp fo pc lp cl tk tc F tn tl) (fun r h => r = some (.int (nI (f + ga_w μ f))) ∧ h = (gc_h n μ sp fo pc lp cl tk tc F tn tl)) := by
  refine gs_G_valuesAt _ _ (gx_run 8 (And.intro ⟨_, rfl⟩ (gx_c1 (gx_le8 rfl) (k_R_number hf hn hμ) (And.intro ?_ rfl))))
  rw [ga_rdw, nI_add]
theorem k_G_localsAt {f : Nat} (hf : f + 8 ≤ n) (hn : n < 2147483648) (hμ : ∀ i, μ i < 256) : gx_call LL xs (d + 3) z_G_localsAt 0 0 [.ref 0, .int (nI f)] (gc_h n μ sp fo pc lp cl tk tc F tn tl) (fun r h => r = some (.int (nI (f + ga_w μ (f + 4)))) ∧ h = (gc_h n μ sp fo pc lp cl tk tc F tn tl)) := by
  have hc : gx_call LL xs (d + 2) z_R_number 0 0 [.ref 3, .int (nI f + nI 4), .int (nI 4)] (gc_h n μ sp fo pc lp cl tk tc F tn tl) (fun r h => r = some (.int (nI (ga_w μ (f + 4)))) ∧ h = (gc_h n μ sp fo pc lp cl tk tc F tn tl)) := by
    rw [nI_add, ← ga_rdw]
    exact k_R_number (by omega) hn hμ
  refine gs_G_localsAt _ _ (gx_run 10 (And.intro ⟨_, rfl⟩ (gx_c1 (gx_le8 rfl) hc (And.intro ?_ rfl))))
  rw [nI_add]
theorem k_G_isInLocals {f : Nat} (place w : Int32) (hf : f + 8 ≤ n) (hn : n < 2147483648) (hμ : ∀ i, μ i < 256) (hl : ga_w μ (f + 4) ≤ ga_w μ f) : gx_call LL xs (d + 4) z_G_isInLocals 0 0 [.ref 0, .int (nI f), .int place, .int w] (gc_h n μ sp fo pc lp cl tk tc F tn tl) (fun r h => r = some (.int (ga_b (ga_il μ f place w))) ∧ h = (gc_h n μ sp fo pc lp cl tk tc F tn tl)) := by
  have e : nI (f + ga_w μ f) - nI (f + ga_w μ (f + 4)) = nI (ga_w μ f - ga_w μ (f + 4)) := by
    rw [pk_sub (by omega)]
    congr 1
    omega
  refine gs_G_isInLocals _ _ _ _ (gx_run 2 (And.intro (fun c => gx_run 2 (And.intro (Or.inl rfl) (And.intro ?_ rfl))) (fun c1 => gx_run 11 (And.intro ⟨_, rfl⟩ (gx_c1 (gx_le8 rfl) (k_G_valuesAt (by omega) hn hμ) (And.intro ⟨_, rfl⟩ (gx_c1 (gx_le8 rfl) (k_G_localsAt hf hn hμ) ?_)))))))
  · simp [ga_il, c, ga_b]
  · refine And.intro (fun c => gx_run 2 (And.intro (Or.inl rfl) (And.intro ?_ rfl))) (fun c => gx_run 3 (And.intro (Or.inr rfl) (And.intro ?_ rfl)))
    · rw [e] at c
      simp only [ga_il, c1, c, ga_b, decide_true, decide_false, Bool.not_true, Bool.not_false, Bool.and_false]
    · rw [e] at c
      simp only [ga_il, c1, c, ga_b, decide_true, decide_false, Bool.not_true, Bool.not_false, Bool.and_true]
theorem k_G_frameBelow {e : Nat} (h4 : 4 ≤ e) (he : e ≤ n) (hn : n < 2147483648) (hμ : ∀ i, μ i < 256) : gx_call LL xs (d + 3) z_G_frameBelow 0 0 [.ref 0, .int (nI e)] (gc_h n μ sp fo pc lp cl tk tc F tn tl) (fun r h => r = some (.int (ga_rd μ (e - 4) 4)) ∧ h = (gc_h n μ sp fo pc lp cl tk tc F tn tl)) := by
  have hc : gx_call LL xs (d + 2) z_R_number 0 0 [.ref 3, .int (nI e - nI 4), .int (nI 4)] (gc_h n μ sp fo pc lp cl tk tc F tn tl) (fun r h => r = some (.int (ga_rd μ (e - 4) 4)) ∧ h = (gc_h n μ sp fo pc lp cl tk tc F tn tl)) := by
    rw [pk_sub h4]
    exact k_R_number (by omega) hn hμ
  exact gs_G_frameBelow _ _ (gx_run 8 (And.intro ⟨_, rfl⟩ (gx_c1 (gx_le8 rfl) hc (And.intro rfl rfl))))
/-- the latest token -/
def ga_lt (tk : Nat → Nat) (tc : Nat) : Option Nat := match tc with
  | 0 => none
  | c + 1 => some (tk c)
theorem k_G_latestToken (hc : tc ≤ n / 16 + 1) (hn : n < 2147483648) : gx_call LL xs (d + 1) z_G_latestToken 0 0 [.ref 0] (gc_h n μ sp fo pc lp cl tk tc F tn tl) (fun r h => r = some (.int (ga_fp (ga_lt tk tc))) ∧ h = (gc_h n μ sp fo pc lp cl tk tc F tn tl)) := by
  cases tc with
  | zero => exact gs_G_latestToken _ (gx_run 7 (And.intro (fun _ => gx_run 2 (And.intro rfl rfl)) (fun c => absurd (by decide) c)))
  | succ c =>
    have e : nI (c + 1) - nI 1 = nI c := pk_sub (Nat.le_add_left 1 c)
    refine gs_G_latestToken _ (gx_run 7 (And.intro (fun h => ?_) (fun _ => gx_run 5 (And.intro (fun h => ?_) (fun _ => gx_run 6 (gx_ar c e (by omega) (by omega) (And.intro rfl rfl)))))))
    · rw [e] at h
      exact absurd h (nI_pos (by omega))
    · rw [e] at h
      exact absurd h (nI_ge (by omega) (by omega))
/-- tokens from a place on are dropped: c are left -/
theorem k_G_dropTokensFrom (hn : n < 2147483648) {p c : Nat} (hp : p < 2147483648) (hlow : ∀ c', c = c' + 1 → tk c' < p) : ∀ (m : Nat) (tc : Nat), tc = c + m → tc ≤ n / 16 + 1 → (∀ i, c ≤ i → i < tc → p ≤ tk i ∧ tk i < 2147483648) →
    gx_E LL xs (gx_call LL xs (d + 1)) cd_G_dropTokensFrom (fun r h => r = none ∧ h = (gc_h n μ sp fo pc lp cl tk c F tn tl)) 0 [some (.ref 0), some (.int (nI p))] [] (gc_h n μ sp fo pc lp cl tk tc F tn tl) 0 0 := by
  intro m
  induction m with
  | zero =>
    intro tc hm hc hi
    obtain rfl : tc = c := by omega
    cases tc with
    | zero => exact gx_run 3 (And.intro (fun _ => gx_run 1 (And.intro rfl rfl)) (fun h => absurd (by decide) h))
    | succ c' =>
      have h1 := hlow c' rfl
      refine gx_run 3 (And.intro (fun h => absurd h (nI_nle (by omega) (by omega))) (fun _ => gx_run 4 (And.intro ⟨_, rfl⟩ (gx_c1 (gx_le8 rfl) (k_G_latestToken hc hn) ?_))))
      exact And.intro (fun _ => gx_run 1 (And.intro rfl rfl)) (fun h => absurd (nI_lt h1 (by omega)) h)
  | succ m ih =>
    intro tc hm hc hi
    obtain ⟨c', rfl⟩ : ∃ c', tc = c' + 1 := ⟨tc - 1, by omega⟩
    have h1 := hi c' (by omega) (by omega)
    refine gx_run 3 (And.intro (fun h => absurd h (nI_nle (by omega) (by omega))) (fun _ => gx_run 4 (And.intro ⟨_, rfl⟩ (gx_c1 (gx_le8 rfl) (k_G_latestToken hc hn) ?_))))
    refine And.intro (fun h => absurd h (nI_nlt h1.1 h1.2)) (fun _ => gx_run 7 ?_)
    have e : nI (c' + 1) - nI 1 = nI c' := pk_sub (Nat.le_add_left 1 c')
    have h9 := ih c' (by omega) (by omega) (fun i a b => hi i a (by omega))
    rw [show (gc_h n μ sp fo pc lp cl tk c' F tn tl) = (gc_h n μ sp fo pc lp cl tk (c' + 1) F tn tl).set 0 (.inr (.inr (2, [.ref 3, .ref 1, .ref 2, .ref 41, .int (nI (c' + 1) - nI 1), .ref 42, .int (ga_fp fo), .int pc, .int lp]))) from by rw [e]; rfl] at h9
    exact h9
theorem k_G_drop (hn : n < 2147483648) {p c : Nat} (hp : p < 2147483648) (hlow : ∀ c', c = c' + 1 → tk c' < p) (hcc : c ≤ tc) (hc : tc ≤ n / 16 + 1) (hi : ∀ i, c ≤ i → i < tc → p ≤ tk i ∧ tk i < 2147483648) :
    gx_call LL xs (d + 2) z_G_dropTokensFrom 0 0 [.ref 0, .int (nI p)] (gc_h n μ sp fo pc lp cl tk tc F tn tl) (fun r h => r = none ∧ h = (gc_h n μ sp fo pc lp cl tk c F tn tl)) :=
  gs_G_dropTokensFrom _ _ (k_G_dropTokensFrom hn hp hlow (tc - c) tc (by omega) hc hi)
theorem k_G_addToken {t : Nat} (hc : tc < n / 16 + 1) (hn : n < 2147483648) : gx_call LL xs (d + 1) z_G_addToken 0 0 [.ref 0, .int (nI t)] (gc_h n μ sp fo pc lp cl tk tc F tn tl) (fun r h => r = none ∧ h = (gc_h n μ sp fo pc lp cl (va_up tk tc t) (tc + 1) F tn tl)) := by
  refine gs_G_addToken _ _ (gx_run 3 (And.intro (fun h => absurd h (nI_pos (by omega))) (fun _ => gx_run 6 (And.intro (fun h => absurd h (nI_ge hc (by omega))) (fun _ => gx_run 13 (gx_ar tc rfl hc (by omega) (And.intro rfl ?_)))))))
  rw [gm_byte, nI_add]
  rfl
theorem k_G_isLive_l (x : Int32) (hc : tc ≤ n / 16 + 1) (hn : n < 2147483648) : ∀ (m i : Nat), i + m = tc → (∀ j, j < i → ¬ nI (tk j) = x) →
    gx_E LL xs (gx_call LL xs d) cd_G_isLive (fun r h => ((r = some (.int (nI 1)) ∧ ∃ j, j < tc ∧ nI (tk j) = x) ∨ (r = some (.int (nI 0)) ∧ ∀ j, j < tc → ¬ nI (tk j) = x)) ∧ h = (gc_h n μ sp fo pc lp cl tk tc F tn tl)) 2 [some (.ref 0), some (.int x), some (.int (nI i))] [] (gc_h n μ sp fo pc lp cl tk tc F tn tl) 0 0 := by
  intro m
  induction m with
  | zero =>
    intro i hm hj
    exact gx_run 4 (And.intro (fun _ => gx_run 2 (And.intro (Or.inl rfl) (And.intro (Or.inr ⟨rfl, fun j h => hj j (by omega)⟩) rfl))) (fun c => absurd (nI_le (show tc ≤ i by omega) (by omega)) c))
  | succ m ih =>
    intro i hm hj
    refine gx_run 4 (And.intro (fun c => absurd c (nI_ge (show i < tc by omega) (by omega))) (fun _ => gx_run 5 (And.intro (fun c => absurd c (nI_ge (show i < n / 16 + 1 by omega) (by omega))) (fun _ => gx_run 6 (gx_ar i rfl (show i < n / 16 + 1 by omega) (by omega) ?_)))))
    refine And.intro (fun c => gx_run 2 ?_) (fun c => gx_run 2 (And.intro (Or.inr rfl) (And.intro (Or.inl ⟨rfl, i, by omega, c⟩) rfl)))
    have h9 := ih (i + 1) (by omega) (fun j hj2 => by
      by_cases e : j = i
      · subst e; exact c
      · exact hj j (by omega))
    rw [← nI_add i 1] at h9
    exact h9
theorem k_G_isLive (x : Int32) (hc : tc ≤ n / 16 + 1) (hn : n < 2147483648) : gx_call LL xs (d + 1) z_G_isLive 0 0 [.ref 0, .int x] (gc_h n μ sp fo pc lp cl tk tc F tn tl) (fun r h => ((r = some (.int (nI 1)) ∧ ∃ j, j < tc ∧ nI (tk j) = x) ∨ (r = some (.int (nI 0)) ∧ ∀ j, j < tc → ¬ nI (tk j) = x)) ∧ h = (gc_h n μ sp fo pc lp cl tk tc F tn tl)) :=
  gs_G_isLive _ _ (gx_run 2 (k_G_isLive_l x hc hn tc 0 (Nat.zero_add tc) (fun j h => absurd h (Nat.not_lt_zero j))))
theorem k_G_valueFromLast {j : Nat} (hj : 4 * (j + 1) ≤ sp) (hs : sp ≤ n) (hn : n < 2147483648) (hμ : ∀ i, μ i < 256) : gx_call LL xs (d + 3) z_G_valueFromLast 0 0 [.ref 0, .int (nI j)] (gc_h n μ sp fo pc lp cl tk tc F tn tl) (fun r h => r = some (.int (ga_rd μ (sp - 4 * (j + 1)) 4)) ∧ h = (gc_h n μ sp fo pc lp cl tk tc F tn tl)) := by
  have hc : gx_call LL xs (d + 2) z_R_number 0 0 [.ref 3, .int (nI sp - nI 4 * (nI j + nI 1)), .int (nI 4)] (gc_h n μ sp fo pc lp cl tk tc F tn tl) (fun r h => r = some (.int (ga_rd μ (sp - 4 * (j + 1)) 4)) ∧ h = (gc_h n μ sp fo pc lp cl tk tc F tn tl)) := by
    rw [nI_add, pk_mul, pk_sub hj]
    exact k_R_number (by omega) hn hμ
  exact gs_G_valueFromLast _ _ (gx_run 14 (And.intro ⟨_, rfl⟩ (gx_c1 (gx_le8 rfl) k_R_end (And.intro ⟨_, rfl⟩ (gx_c1 (gx_le8 rfl) hc (And.intro rfl rfl))))))
/-- values taken, the last first -/
def ga_tv (μ : Nat → Nat) (sp m : Nat) (tn : Nat → Int32) : Nat → Int32 := fun i => if i < m then ga_rd μ (sp - 4 * (i + 1)) 4 else tn i
theorem ga_tv_s {μ : Nat → Nat} {sp m : Nat} {tn : Nat → Int32} : upd (ga_tv μ sp m tn) m (ga_rd μ (sp - 4 * (m + 1)) 4) = ga_tv μ sp (m + 1) tn := by
  funext i
  unfold upd ga_tv
  by_cases h : i = m
  · subst h; simp
  · by_cases h2 : i < m
    · simp [h, h2, show i < m + 1 by omega]
    · simp [h, h2, show ¬ i < m + 1 by omega]
theorem ga_tv_0 {μ : Nat → Nat} {sp : Nat} {tn : Nat → Int32} : ga_tv μ sp 0 tn = tn := by
  funext i
  unfold ga_tv
  rw [if_neg (Nat.not_lt_zero i)]
theorem k_G_takeValues_l {m : Nat} (hm : 4 * m ≤ sp) (hs : sp ≤ n) (hn : n < 2147483648) (hμ : ∀ i, μ i < 256) : ∀ (q i : Nat), i + q = m →
    gx_E LL xs (gx_call LL xs (d + 3)) cd_G_takeValues (fun r h => r = none ∧ h = (gc_h n μ (sp - 4 * m) fo pc lp cl tk tc F (ga_tv μ sp m tn) tl)) 2 [some (.ref 0), some (.int (nI m)), some (.int (nI i))] [] (gc_h n μ sp fo pc lp cl tk tc F (ga_tv μ sp i tn) tl) 0 0 := by
  intro q
  induction q with
  | zero =>
    intro i hq
    obtain rfl : i = m := by omega
    have hc : gx_call LL xs (d + 3) z_R_cutTo 0 0 [.ref 3, .int (nI sp - nI 4 * nI i)] (gc_h n μ sp fo pc lp cl tk tc F (ga_tv μ sp i tn) tl) (fun r h => r = none ∧ h = (gc_h n μ (sp - 4 * i) fo pc lp cl tk tc F (ga_tv μ sp i tn) tl)) := by
      rw [pk_mul, pk_sub hm]
      exact k_R_cutTo (Nat.sub_le _ _) (by omega)
    exact gx_run 3 (And.intro (fun _ => gx_run 11 (And.intro ⟨_, rfl⟩ (gx_c1 (gx_le8 rfl) k_R_end (And.intro ⟨_, rfl⟩ (gx_c1 (gx_le8 rfl) hc (And.intro rfl rfl)))))) (fun c => absurd (nI_le (Nat.le_refl i) (by omega)) c))
  | succ q ih =>
    intro i hq
    refine gx_run 3 (And.intro (fun c => absurd c (nI_ge (show i < m by omega) (by omega))) (fun _ => gx_run 5 (And.intro (fun c => absurd c (nI_ge (show i < n / 4 + 1 by omega) (by omega))) (fun _ => gx_run 9 (And.intro ⟨_, rfl⟩ (gx_c1 (gx_le8 rfl) (k_G_valueFromLast (j := i) (by omega) hs hn hμ) (gx_ar i rfl (show i < n / 4 + 1 by omega) (by omega) ?_)))))))
    have h9 := ih (i + 1) (by omega)
    rw [← nI_add i 1, ← ga_tv_s] at h9
    exact h9
theorem k_G_takeValues {m : Nat} (hm : 4 * m ≤ sp) (hs : sp ≤ n) (hn : n < 2147483648) (hμ : ∀ i, μ i < 256) : gx_call LL xs (d + 4) z_G_takeValues 0 0 [.ref 0, .int (nI m)] (gc_h n μ sp fo pc lp cl tk tc F tn tl) (fun r h => r = none ∧ h = (gc_h n μ (sp - 4 * m) fo pc lp cl tk tc F (ga_tv μ sp m tn) tl)) := by
  have h9 := k_G_takeValues_l (LL := LL) (xs := xs) (d := d) (fo := fo) (pc := pc) (lp := lp) (cl := cl) (tk := tk) (tc := tc) (F := F) (tn := tn) (tl := tl) hm hs hn hμ m 0 (Nat.zero_add m)
  rw [ga_tv_0] at h9
  exact gs_G_takeValues _ _ (gx_run 2 h9)
theorem k_G_takenValue {i : Nat} (hi : i < n / 4 + 1) (hn : n < 2147483648) : gx_call LL xs (d + 1) z_G_takenValue 0 0 [.ref 0, .int (nI i)] (gc_h n μ sp fo pc lp cl tk tc F tn tl) (fun r h => r = some (.int (tn i)) ∧ h = (gc_h n μ sp fo pc lp cl tk tc F tn tl)) :=
  gs_G_takenValue _ _ (gx_run 2 (And.intro (fun c => absurd c (nI_pos (by omega))) (fun _ => gx_run 5 (And.intro (fun c => absurd c (nI_ge hi (by omega))) (fun _ => gx_run 6 (gx_ar i rfl hi (by omega) (And.intro rfl rfl)))))))
end GCI
