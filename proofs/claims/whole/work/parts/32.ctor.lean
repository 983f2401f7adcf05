/-! What is made at the start. -/
theorem gx_ca {CALL : gx_C} {z : Nat} {av rest : List Value} {h h0 : gx_H} {cb sb : Nat} {kk : Option Value → gx_H → Nat → Nat → Prop} {mc ms : Nat} (hmc : mc ≤ cb) (hms : ms ≤ sb) (hc : gx_cat rest ≤ 8) (hcall : CALL z mc ms av h (fun r h' => r = none ∧ h' = h0)) (k : kk none h0 (cb - mc) (sb - ms)) : gx_inv CALL z av rest h cb sb kk :=
  ⟨hc, mc, ms, _, hmc, hms, hcall, fun r h1 q => by obtain ⟨rfl, rfl⟩ := q; exact k⟩
def ga_cl (x : Int32) : Nat := if x < nI 64 then 64 else if nI 1024 < x then 1024 else x.toNatClampNeg
def ga_n (x : Int32) : Nat := ga_cl x - ga_cl x % 4
theorem ga_cl_b (x : Int32) : 64 ≤ ga_cl x ∧ ga_cl x ≤ 1024 ∧ (¬ x < nI 64 → ¬ nI 1024 < x → x = nI (ga_cl x)) := by
  unfold ga_cl
  by_cases h1 : x < nI 64
  · rw [if_pos h1]
    exact ⟨by decide, by decide, fun h => absurd h1 h⟩
  · rw [if_neg h1]
    by_cases h2 : nI 1024 < x
    · rw [if_pos h2]
      exact ⟨by decide, by decide, fun _ h => absurd h2 h⟩
    · rw [if_neg h2]
      have a1 : ¬ x.toInt < (nI 64).toInt := fun z => h1 (Int32.lt_iff_toInt_lt.mpr z)
      have a2 : ¬ (nI 1024).toInt < x.toInt := fun z => h2 (Int32.lt_iff_toInt_lt.mpr z)
      rw [nI_toInt (by decide)] at a1 a2
      obtain ⟨j, hj, rfl⟩ := nI_of (x := x) (fun h => by rw [Int32.lt_iff_toInt_lt, Int32.toInt_zero] at h; omega)
      rw [nI_toInt hj] at a1 a2
      rw [nI_clamp (by omega)]
      exact ⟨by omega, by omega, fun _ _ => rfl⟩
theorem ga_n_b (x : Int32) : 64 ≤ ga_n x ∧ ga_n x ≤ 1024 := by
  have h := ga_cl_b x
  unfold ga_n
  omega
theorem ga_n_x (x : Int32) : nI (ga_cl x) - (nI (ga_cl x) - nI (ga_cl x) / nI 4 * nI 4) = nI (ga_n x) := by
  have h := ga_cl_b x
  rw [ga_rmn (by omega) (by decide) (by decide), pk_sub (by omega)]
  rfl
section GCT
variable {LL : Nat} {xs : Nat → Int32} {d : Nat} {h : gx_H}
theorem j_min (a b : Int32) : gx_call LL xs (d + 1) z_J_min 0 0 [.int a, .int b] h (fun r h' => r = some (.int (if b < a then b else a)) ∧ h' = h) := by
  refine gs_J_min _ _ (gx_run 3 (And.intro (fun c => gx_run 2 (And.intro ?_ rfl)) (fun c => gx_run 3 (And.intro ?_ rfl))))
  · rw [if_pos (show b < a from c)]
  · rw [if_neg (show ¬ b < a from c)]
theorem j_max (a b : Int32) : gx_call LL xs (d + 1) z_J_max 0 0 [.int a, .int b] h (fun r h' => r = some (.int (if a < b then b else a)) ∧ h' = h) := by
  refine gs_J_max _ _ (gx_run 3 (And.intro (fun c => gx_run 2 (And.intro ?_ rfl)) (fun c => gx_run 3 (And.intro ?_ rfl))))
  · rw [if_pos (show a < b from c)]
  · rw [if_neg (show ¬ a < b from c)]
theorem ga_mm (x : Int32) : (if nI 64 < (if x < nI 1024 then x else nI 1024) then (if x < nI 1024 then x else nI 1024) else nI 64) = nI (ga_cl x) := by
  have hb := ga_cl_b x
  by_cases h1 : x < nI 64
  · have e : ga_cl x = 64 := if_pos h1
    have h3 : x < nI 1024 := by
      have a1 := Int32.lt_iff_toInt_lt.mp h1
      rw [nI_toInt (by decide)] at a1
      rw [Int32.lt_iff_toInt_lt, nI_toInt (by decide)]
      omega
    rw [if_pos h3, e]
    have h4 : ¬ nI 64 < x := fun z => absurd (Int32.lt_trans h1 z) (Int32.lt_irrefl)
    rw [if_neg h4]
  · by_cases h2 : nI 1024 < x
    · have e : ga_cl x = 1024 := by unfold ga_cl; rw [if_neg h1, if_pos h2]
      have h4 : ¬ x < nI 1024 := fun z => absurd (Int32.lt_trans h2 z) (Int32.lt_irrefl)
      rw [if_neg h4, e]
      decide
    · have e := hb.2.2 h1 h2
      generalize hcx : ga_cl x = c at e hb ⊢
      subst e
      by_cases h5 : c < 1024
      · rw [if_pos (nI_lt h5 (by decide))]
        by_cases h6 : 64 < c
        · rw [if_pos (nI_lt h6 (by omega))]
        · rw [if_neg (nI_nlt (by omega) (by decide)), show c = 64 by omega]
      · rw [if_neg (nI_nlt (by omega) (by omega)), show c = 1024 by omega]
        decide
theorem g_R_init (x : Int32) (c0 c1 c2 : gx_A) : gx_call LL xs (d + 2) z_R_init 1 1024 [.ref 3, .int x] [c0, c1, c2, .inr (.inr (1, gx_df 1))] (fun r h => r = none ∧ h = [c0, c1, c2, .inr (.inr (1, [.ref 4, .int 0])), .inl (1, ga_n x, fun _ => 0)]) := by
  have hb := ga_n_b x
  have k1 := j_min (LL := LL) (xs := xs) (d := d) (h := [c0, c1, c2, .inr (.inr (1, gx_df 1))]) (nI 1024) x
  have k2 := j_max (LL := LL) (xs := xs) (d := d) (h := [c0, c1, c2, .inr (.inr (1, gx_df 1))]) (nI 64) (if x < nI 1024 then x else nI 1024)
  rw [ga_mm] at k2
  refine gs_R_init _ _ (gx_run 5 (And.intro (gx_le8 rfl) ?_))
  refine gx_run 6 (gx_c1 (gx_le8 rfl) k1 (gx_c1 (gx_le8 rfl) k2 ?_))
  refine gx_run 9 (And.intro (by decide) ⟨ga_n x, ga_n_x x, by omega, by decide, by omega, And.intro rfl rfl⟩)
theorem gx_set {h0 t : gx_H} {x y : gx_A} : (h0 ++ x :: t).set h0.length y = h0 ++ y :: t := by simp
theorem gx_gets {h0 t : gx_H} {x : gx_A} : (h0 ++ x :: t)[h0.length]? = some x := by simp
theorem g_F_init (h0 : gx_H) : gx_call LL xs (d + 1) z_F_init 2 12 [.ref h0.length] (h0 ++ [.inr (.inr (0, gx_df 0))]) (fun r h => r = none ∧ h = h0 ++ [.inr (.inr (0, [.int 0, .int 0, .int 0, .ref (h0.length + 1), .ref (h0.length + 2)])), .inl (0, 6, fun _ => 0), .inl (0, 6, fun _ => 0)]) := by
  refine gs_F_init _ (gx_run 4 (And.intro (gx_le8 rfl) ?_))
  refine gx_putf rfl gx_gets rfl (fun P h => h) ?_
  rw [gx_set]
  refine gx_run 2 (gx_putf rfl gx_gets rfl (fun P h => h) ?_)
  rw [gx_set]
  refine gx_run 2 (gx_putf rfl gx_gets rfl (fun P h => h) ?_)
  rw [gx_set]
  refine gx_run 3 ⟨6, rfl, by decide, by decide, by decide, ?_⟩
  rw [List.append_assoc]
  refine gx_putf rfl gx_gets rfl (fun P h => h) ?_
  rw [List.cons_append, List.nil_append, gx_set]
  refine gx_run 3 ⟨6, rfl, by decide, by decide, by decide, ?_⟩
  rw [List.append_assoc]
  refine gx_putf rfl gx_gets rfl (fun P h => h) ?_
  rw [List.cons_append, gx_set]
  refine gx_run 1 (And.intro rfl ?_)
  simp
  rfl
end GCT
