/-! The class and the reference, made. -/
def ga_F0 : ga_F := (0, 0, 0, fun _ => 0, fun _ => 0)
def gi_f : Nat → (Nat → Option Nat)
  | 0 => fun _ => none
  | k + 1 => va_up (gi_f k) k (some (5 + 3 * k))
def gi_R : Nat → gx_H
  | 0 => []
  | k + 1 => gi_R k ++ [gc_o k ga_F0, gc_w ga_F0, gc_c ga_F0]
theorem gi_len : ∀ k, (gi_R k).length = 3 * k
  | 0 => rfl
  | k + 1 => by
    show (gi_R k ++ _).length = _
    rw [List.length_append, gi_len k]
    rfl
theorem gi_f12 : gi_f 12 = gc_g := by
  have h : ∀ k j, gi_f k j = if j < k then some (5 + 3 * j) else none := by
    intro k
    induction k with
    | zero => intro j; rw [if_neg (Nat.not_lt_zero j)]; rfl
    | succ k ih =>
      intro j
      show va_up (gi_f k) k _ j = _
      unfold va_up
      by_cases e : j = k
      · rw [if_pos e, if_pos (by omega), e]
      · rw [if_neg e, ih j]
        by_cases c : j < k
        · rw [if_pos c, if_pos (by omega)]
        · rw [if_neg c, if_neg (by omega)]
  funext j
  exact h 12 j
def gi_h (n k : Nat) : gx_H := .inr (.inr (2, [.ref 3, .ref 1, .ref 2, .null, .int 0, .null, .int (-(nI 1)), .int 0, .int 0])) :: .inr (.inl (12, gi_f k)) :: .inl (0, 16, fun _ => 0) :: .inr (.inr (1, [.ref 4, .int 0])) :: .inl (1, n, fun _ => 0) :: gi_R k
theorem gi_hlen (n k : Nat) : (gi_h n k).length = 5 + 3 * k := by
  show (gi_R k).length + 1 + 1 + 1 + 1 + 1 = _
  rw [gi_len]
  omega
def ga_hG (n : Nat) : gx_H := gc_h n (fun _ => 0) 0 none 0 0 (fun _ => 0) (fun _ => 0) 0 (fun _ => ga_F0) (fun _ => 0) []
section GCU
variable {LL : Nat} {xs : Nat → Int32} {d : Nat} {n : Nat}
theorem g_size (k : Nat) : gx_call LL xs (d + 1) z_R_size 0 0 [.ref 3] (gi_h n k) (fun r h => r = some (.int (nI n)) ∧ h = gi_h n k) :=
  gs_R_size _ (gx_run 4 (And.intro rfl rfl))
theorem g_size2 (k : Nat) {fs : List Value} {t : gx_H} : gx_call LL xs (d + 1) z_R_size 0 0 [.ref 3] (.inr (.inr (2, fs)) :: .inr (.inl (12, gi_f k)) :: .inl (0, 16, fun _ => 0) :: .inr (.inr (1, [.ref 4, .int 0])) :: .inl (1, n, fun _ => 0) :: t) (fun r h => r = some (.int (nI n)) ∧ h = (.inr (.inr (2, fs)) :: .inr (.inl (12, gi_f k)) :: .inl (0, 16, fun _ => 0) :: .inr (.inr (1, [.ref 4, .int 0])) :: .inl (1, n, fun _ => 0) :: t)) :=
  gs_R_size _ (gx_run 4 (And.intro rfl rfl))
theorem gi_end (hn : n ≤ 1024) : (.inr (.inr (2, [.ref 3, .ref 1, .ref 2, .ref 41, .int 0, .ref 42, .int (-(nI 1)), .int 0, .int 0])) :: .inr (.inl (12, gi_f 12)) :: .inl (0, 16, fun _ => 0) :: .inr (.inr (1, [.ref 4, .int 0])) :: .inl (1, n, fun _ => 0) :: (gi_R 12 ++ [.inl (0, n / 16 + 1, fun _ => 0), .inl (0, n / 4 + 1, fun _ => 0)]) : gx_H) = ga_hG n := by
  have e1 : (fun _ : Nat => (0 : Int32)) = fun _ => sb_b 0 := by funext i; decide
  rw [gi_f12]
  unfold ga_hG gc_h
  rw [← e1]
  rfl
theorem g_G_l (x : Int32) (hn : n ≤ 1024) : ∀ (m k cb sb : Nat), k + m = 12 → 3 * m + 2 ≤ cb → 17 * m + 400 ≤ sb →
    gx_E LL xs (gx_call LL xs (d + 1)) cd_G_init (fun r h => r = none ∧ h = ga_hG n) 30 [some (.ref 0), some (.int x), some (.int (nI k))] [] (gi_h n k) cb sb := by
  intro m
  induction m with
  | zero =>
    intro k cb sb hk hcb hsb
    obtain rfl : k = 12 := by omega
    refine gx_run 5 (And.intro (fun _ => ?_) (fun c => absurd (by decide) c))
    refine gx_run 7 (And.intro ⟨_, rfl⟩ (gx_c1 (gx_le8 rfl) (g_size 12) (And.intro (by decide) ?_)))
    refine gx_run 3 ⟨n / 16 + 1, by rw [pk_div (by omega) (by decide) (by decide), nI_add], by omega, by omega, by omega, ?_⟩
    rw [gi_hlen]
    refine gx_run 7 (And.intro ⟨_, rfl⟩ (gx_c1 (gx_le8 rfl) (gs_R_size _ (gx_run 4 (And.intro rfl rfl))) (And.intro (by decide) ?_)))
    refine gx_run 3 ⟨n / 4 + 1, by rw [pk_div (by omega) (by decide) (by decide), nI_add], by omega, by omega, by omega, ?_⟩
    exact gx_run 2 (And.intro rfl (gi_end hn))
  | succ m ih =>
    intro k cb sb hk hcb hsb
    have hF := g_F_init (LL := LL) (xs := xs) (d := d) (gi_h n k)
    rw [gi_hlen] at hF
    refine gx_run 5 (And.intro (fun c => absurd c (nI_ge (show k < 12 by omega) (by decide))) (fun _ => gx_run 4 (And.intro (by omega) (And.intro (by show 5 ≤ sb; omega) ?_))))
    rw [gi_hlen]
    have hg : ∀ (y : gx_A) (t : gx_H), (gi_h n k ++ y :: t)[5 + 3 * k]? = some y := fun y t => by rw [← gi_hlen n k]; exact gx_gets
    refine gx_run 5 (And.intro ⟨_, hg _ _⟩ (gx_ca (mc := 2) (ms := 12) (by omega) (by show 12 ≤ sb - 5; omega) (gx_le8 rfl) hF (And.intro rfl (gx_ar k rfl (show k < 12 by omega) (by decide) (And.intro ⟨_, hg _ _⟩ ?_)))))
    have h9 := ih (k + 1) (cb - 1 - 2) (sb - 5 - 12) (by omega) (by omega) (by omega)
    rw [← nI_add k 1] at h9
    have e : (gi_h n k ++ ([.inr (.inr (0, [.int 0, .int 0, .int 0, .ref (5 + 3 * k + 1), .ref (5 + 3 * k + 2)])), .inl (0, 6, fun _ => 0), .inl (0, 6, fun _ => 0)] : gx_H)).set 1 (.inr (.inl (12, va_up (gi_f k) k (some (5 + 3 * k))))) = gi_h n (k + 1) := by
      rw [show 5 + 3 * k + 1 = 6 + 3 * k by omega, show 5 + 3 * k + 2 = 7 + 3 * k by omega]
      rfl
    rw [← e] at h9
    exact h9
theorem g_G_init (x : Int32) : gx_call LL xs (d + 3) z_G_init 60 3000 [.ref 0, .int x] [.inr (.inr (2, gx_df 2))] (fun r h => r = none ∧ h = ga_hG (ga_n x)) := by
  have hb := ga_n_b x
  have h9 := g_G_l (LL := LL) (xs := xs) (d := d + 1) x hb.2 12 0 (60 - 1 - 1 - 1 - 1) (3000 - 12 - 16 - 2 - 1024) (by decide) (by decide) (by decide)
  have hR := g_R_init (LL := LL) (xs := xs) (d := d) x (.inr (.inr (2, [.null, .ref 1, .ref 2, .null, .int 0, .null, .int (-(nI 1)), .int 0, .int 0]))) (.inr (.inl (12, fun _ => none))) (.inl (0, 16, fun _ => 0))
  refine gs_G_init _ _ (gx_run 5 (And.intro (gx_le8 rfl) ⟨12, rfl, by decide, by decide, by decide, ?_⟩))
  refine gx_run 4 ⟨16, rfl, by decide, by decide, by decide, ?_⟩
  refine gx_run 15 (And.intro (by decide) (And.intro (by decide) ?_))
  exact gx_run 6 (And.intro ⟨_, rfl⟩ (gx_ca (mc := 1) (ms := 1024) (by decide) (by decide) (gx_le8 rfl) hR (And.intro rfl h9)))
end GCU
