/-! The reference, made. -/
section GCV
variable {LL : Nat} {xs : Nat → Int32} {d : Nat} {h0 : gx_H}
theorem gq_get (hl : h0.length = 43) {x : gx_A} {t : gx_H} : (h0 ++ x :: t)[43]? = some x := by
  rw [← hl]
  exact gx_gets
theorem gq_set (hl : h0.length = 43) {x y : gx_A} {t : gx_H} : (h0 ++ x :: t).set 43 y = h0 ++ y :: t := by
  rw [← hl]
  exact gx_set
theorem gq_len (hl : h0.length = 43) {x : gx_A} {t : gx_H} : (h0 ++ x :: t).length = 44 + t.length := by
  rw [List.length_append, hl, List.length_cons]
  omega
theorem gq_app {x w : gx_A} {t : gx_H} : (h0 ++ x :: t) ++ [w] = h0 ++ x :: (t ++ [w]) := by simp
def ga_tM (n : Nat) : gx_H := [.inr (.inr (3, [.int (nI n), .ref 44, .int 0, .int (-(nI 1)), .int 0, .ref 45, .ref 46, .ref 47, .ref 48, .ref 49, .ref 50, .ref 51, .int 0, .int 0, .ref 52])), .inl (0, 1024, fun _ => 0), .inl (0, 16, fun _ => 0), .inl (0, 12, fun _ => 0), .inl (0, 12, fun _ => 0), .inl (0, 72, fun _ => 0), .inl (0, 72, fun _ => 0), .inl (0, 12, fun _ => 0), .inl (0, 64, fun _ => 0), .inl (0, 256, fun _ => 0)]
theorem g_M_init (x : Int32) (hl : h0.length = 43) : gx_call LL xs (d + 1) z_M_init 9 1600 [.ref 43, .int x] (h0 ++ [.inr (.inr (3, gx_df 3))]) (fun r h => r = none ∧ h = h0 ++ ga_tM (ga_n x)) := by
  have hb := ga_cl_b x
  have hO : ∀ cb sb, gx_E LL xs (gx_call LL xs d) cd_M_init (fun r h => r = none ∧ h = h0 ++ ga_tM (ga_n x)) 52 [some (.ref 43), some (.int x), none] [.int (nI (ga_cl x))] (h0 ++ .inr (.inr (3, [.int 0, .ref 44, .int 0, .int (-(nI 1)), .int 0, .ref 45, .ref 46, .ref 47, .ref 48, .ref 49, .ref 50, .ref 51, .int 0, .int 0, .ref 52])) :: [.inl (0, 1024, fun _ => 0), .inl (0, 16, fun _ => 0), .inl (0, 12, fun _ => 0), .inl (0, 12, fun _ => 0), .inl (0, 72, fun _ => 0), .inl (0, 72, fun _ => 0), .inl (0, 12, fun _ => 0), .inl (0, 64, fun _ => 0), .inl (0, 256, fun _ => 0)]) cb sb := by
    intro cb sb
    refine gx_run 7 (And.intro (by decide) ?_)
    refine gx_putf rfl (gq_get hl) rfl (fun P h => h) ?_
    rw [gq_set hl, ga_n_x]
    exact gx_run 1 (And.intro rfl rfl)
  refine gs_M_init _ _ (gx_run 4 (And.intro (gx_le8 rfl) ?_))
  refine gx_run 1 ⟨1024, rfl, by decide, by decide, by decide, ?_⟩
  rw [gq_len hl, gq_app (h0 := h0)]
  refine gx_putf rfl (gq_get hl) rfl (fun P h => h) ?_
  rw [gq_set hl]
  refine gx_run 2 (gx_putf rfl (gq_get hl) rfl (fun P h => h) ?_)
  rw [gq_set hl]
  refine gx_run 3 ⟨16, rfl, by decide, by decide, by decide, ?_⟩
  rw [gq_len hl, gq_app (h0 := h0)]
  refine gx_putf rfl (gq_get hl) rfl (fun P h => h) ?_
  rw [gq_set hl]
  refine gx_run 3 ⟨12, rfl, by decide, by decide, by decide, ?_⟩
  rw [gq_len hl, gq_app (h0 := h0)]
  refine gx_putf rfl (gq_get hl) rfl (fun P h => h) ?_
  rw [gq_set hl]
  refine gx_run 3 ⟨12, rfl, by decide, by decide, by decide, ?_⟩
  rw [gq_len hl, gq_app (h0 := h0)]
  refine gx_putf rfl (gq_get hl) rfl (fun P h => h) ?_
  rw [gq_set hl]
  refine gx_run 3 ⟨72, rfl, by decide, by decide, by decide, ?_⟩
  rw [gq_len hl, gq_app (h0 := h0)]
  refine gx_putf rfl (gq_get hl) rfl (fun P h => h) ?_
  rw [gq_set hl]
  refine gx_run 3 ⟨72, rfl, by decide, by decide, by decide, ?_⟩
  rw [gq_len hl, gq_app (h0 := h0)]
  refine gx_putf rfl (gq_get hl) rfl (fun P h => h) ?_
  rw [gq_set hl]
  refine gx_run 3 ⟨12, rfl, by decide, by decide, by decide, ?_⟩
  rw [gq_len hl, gq_app (h0 := h0)]
  refine gx_putf rfl (gq_get hl) rfl (fun P h => h) ?_
  rw [gq_set hl]
  refine gx_run 3 ⟨64, rfl, by decide, by decide, by decide, ?_⟩
  rw [gq_len hl, gq_app (h0 := h0)]
  refine gx_putf rfl (gq_get hl) rfl (fun P h => h) ?_
  rw [gq_set hl]
  refine gx_run 3 ⟨256, rfl, by decide, by decide, by decide, ?_⟩
  rw [gq_len hl, gq_app (h0 := h0)]
  refine gx_putf rfl (gq_get hl) rfl (fun P h => h) ?_
  rw [gq_set hl]
  refine gx_run 3 (And.intro (fun c1 => gx_run 3 (And.intro (fun c2 => gx_run 1 ?_) (fun c2 => gx_run 2 ?_))) (fun c1 => gx_run 2 ?_))
  · have h9 := hO (9 - 1 - 1 - 1 - 1 - 1 - 1 - 1 - 1 - 1) (1600 - 1024 - 16 - 12 - 12 - 72 - 72 - 12 - 64 - 256)
    have e := hb.2.2 (Int32.not_lt.mpr c1) (Int32.not_lt.mpr c2)
    rw [← e] at h9
    exact h9
  · have h9 := hO (9 - 1 - 1 - 1 - 1 - 1 - 1 - 1 - 1 - 1) (1600 - 1024 - 16 - 12 - 12 - 72 - 72 - 12 - 64 - 256)
    have e : ga_cl x = 1024 := by unfold ga_cl; rw [if_neg (Int32.not_lt.mpr c1), if_pos (Int32.not_le.mp c2)]
    rw [e] at h9
    exact h9
  · have h9 := hO (9 - 1 - 1 - 1 - 1 - 1 - 1 - 1 - 1 - 1) (1600 - 1024 - 16 - 12 - 12 - 72 - 72 - 12 - 64 - 256)
    have e : ga_cl x = 64 := if_pos (Int32.not_le.mp c1)
    rw [e] at h9
    exact h9
end GCV
