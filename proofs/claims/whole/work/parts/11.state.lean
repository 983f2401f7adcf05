/-! What both the class and the reference hold, as plain values; bytes read and written as both do it. -/
/-- a call that makes nothing -/
theorem gx_cq {CALL : gx_C} {z : Nat} {av rest : List Value} {h : gx_H} {cb sb : Nat} {kk : Option Value → gx_H → Nat → Nat → Prop} {Q' : gx_Q} (hc : gx_cat rest ≤ 8) (hcall : CALL z 0 0 av h Q') (k : ∀ r h1, Q' r h1 → kk r h1 cb sb) : gx_inv CALL z av rest h cb sb kk :=
  ⟨hc, 0, 0, Q', Nat.zero_le _, Nat.zero_le _, hcall, k⟩
/-- and whose answer is known -/
theorem gx_c1 {CALL : gx_C} {z : Nat} {av rest : List Value} {h h0 : gx_H} {r0 : Option Value} {cb sb : Nat} {kk : Option Value → gx_H → Nat → Nat → Prop} (hc : gx_cat rest ≤ 8) (hcall : CALL z 0 0 av h (fun r h' => r = r0 ∧ h' = h0)) (k : kk r0 h0 cb sb) : gx_inv CALL z av rest h cb sb kk :=
  gx_cq hc hcall fun r h1 q => by obtain ⟨rfl, rfl⟩ := q; exact k
theorem gx_ar {x : Int32} {n : Nat} {P : Nat → Prop} (j : Nat) (hx : x = nI j) (hj : j < n) (hn : n < 2147483648) (k : P j) : ∃ j, x = nI j ∧ j < n ∧ n < 2147483648 ∧ P j := ⟨j, hx, hj, hn, k⟩
theorem gx_le8 {rest : List Value} (h : Nat.ble (gx_cat rest) 8 = true) : gx_cat rest ≤ 8 := Nat.le_of_ble_eq_true h
def ga_lo (v : Int32) : Nat := v.toBitVec.toNat % 256
theorem ga_lo_lt (v : Int32) : ga_lo v < 256 := Nat.mod_lt _ (by decide)
theorem ga_and (v : Int32) : v &&& nI 255 = nI (ga_lo v) := pk_and v 8 (by decide)
theorem ga_i8 (v : Int32) : v.toInt8.toInt32 = sb_b (ga_lo v) := by
  unfold sb_b
  rw [← ga_and]
  congr 1
  apply Int8.toBitVec_inj.mp
  show BitVec.signExtend 8 v.toBitVec = BitVec.signExtend 8 (v &&& nI 255).toBitVec
  apply BitVec.eq_of_getLsbD_eq
  intro i hi
  have e : (v &&& nI 255).toBitVec = v.toBitVec &&& 255#32 := rfl
  rw [BitVec.getLsbD_signExtend, BitVec.getLsbD_signExtend, e, BitVec.getLsbD_and]
  have h2 : ∀ j : Fin 8, (255#32).getLsbD j.val = true := by decide
  rw [show (255#32).getLsbD i = true from h2 ⟨i, hi⟩]
  simp [hi, show i < 32 by omega]
theorem ga_sb {c : Nat} (h : c < 256) : sb_b c &&& nI 255 = nI c := (sb_byte c h).1
/-- w bytes from a on become the lowest of v -/
def ga_wr (μ : Nat → Nat) (a : Nat) : Nat → Int32 → (Nat → Nat)
  | 0, _ => μ
  | w + 1, v => ga_wr (va_up μ (a + w) (ga_lo v)) a w (v >>> (nI 8 &&& 31))
/-- w bytes from a on, as a number -/
def ga_rd (μ : Nat → Nat) (a : Nat) : Nat → Int32
  | 0 => nI 0
  | w + 1 => (ga_rd μ a w <<< (nI 8 &&& 31)) ||| nI (μ (a + w))
/-- m bytes from a on become 0 -/
def ga_z (μ : Nat → Nat) (a m : Nat) : Nat → Nat := fun i => if a ≤ i ∧ i < a + m then 0 else μ i
/-- no frame: -1 -/
def ga_fp (fo : Option Nat) : Int32 := match fo with
  | none => -(nI 1)
  | some f => nI f
/-- a function: head, what stands for it, how many pairs, widths, counts -/
abbrev ga_F : Type := Nat × Nat × Nat × (Nat → Nat) × (Nat → Nat)
/-! The class's cells. -/
def gc_g : Nat → Option Nat := fun j => if j < 12 then some (5 + 3 * j) else none
def gc_o (k : Nat) (f : ga_F) : gx_A := .inr (.inr (0, [.int (nI f.1), .int (nI f.2.1), .int (nI f.2.2.1), .ref (6 + 3 * k), .ref (7 + 3 * k)]))
def gc_w (f : ga_F) : gx_A := .inl (0, 6, fun i => nI (f.2.2.2.1 i))
def gc_c (f : ga_F) : gx_A := .inl (0, 6, fun i => nI (f.2.2.2.2 i))
def gc_h (n : Nat) (μ : Nat → Nat) (sp : Nat) (fo : Option Nat) (pc lp : Int32) (cl : Nat → Int32) (tk : Nat → Nat) (tc : Nat) (F : Nat → ga_F) (tn : Nat → Int32) (tl : gx_H) : gx_H :=
  .inr (.inr (2, [.ref 3, .ref 1, .ref 2, .ref 41, .int (nI tc), .ref 42, .int (ga_fp fo), .int pc, .int lp])) :: .inr (.inl (12, gc_g)) :: .inl (0, 16, cl) :: .inr (.inr (1, [.ref 4, .int (nI sp)])) :: .inl (1, n, fun i => sb_b (μ i)) ::
  gc_o 0 (F 0) :: gc_w (F 0) :: gc_c (F 0) :: gc_o 1 (F 1) :: gc_w (F 1) :: gc_c (F 1) :: gc_o 2 (F 2) :: gc_w (F 2) :: gc_c (F 2) :: gc_o 3 (F 3) :: gc_w (F 3) :: gc_c (F 3) ::
  gc_o 4 (F 4) :: gc_w (F 4) :: gc_c (F 4) :: gc_o 5 (F 5) :: gc_w (F 5) :: gc_c (F 5) :: gc_o 6 (F 6) :: gc_w (F 6) :: gc_c (F 6) :: gc_o 7 (F 7) :: gc_w (F 7) :: gc_c (F 7) ::
  gc_o 8 (F 8) :: gc_w (F 8) :: gc_c (F 8) :: gc_o 9 (F 9) :: gc_w (F 9) :: gc_c (F 9) :: gc_o 10 (F 10) :: gc_w (F 10) :: gc_c (F 10) :: gc_o 11 (F 11) :: gc_w (F 11) :: gc_c (F 11) ::
  .inl (0, n / 16 + 1, fun i => nI (tk i)) :: .inl (0, n / 4 + 1, tn) :: tl
theorem gc_byte {μ : Nat → Nat} {j : Nat} {v : Int32} : upd (fun i => sb_b (μ i)) j v.toInt8.toInt32 = fun i => sb_b (va_up μ j (ga_lo v) i) := by
  funext i
  unfold upd va_up
  by_cases h : i = j
  · simp [h, ga_i8]
  · simp [h]
theorem gm_byte {μ : Nat → Nat} {j c : Nat} : upd (fun i => nI (μ i)) j (nI c) = fun i => nI (va_up μ j c i) := by
  funext i
  unfold upd va_up
  by_cases h : i = j <;> simp [h]
theorem va_up_lt {μ : Nat → Nat} {j c : Nat} (h : ∀ i, μ i < 256) (hc : c < 256) : ∀ i, va_up μ j c i < 256 := fun i => by
  unfold va_up
  split
  · exact hc
  · exact h i
theorem ga_wr_lt {a : Nat} : ∀ {w : Nat} {μ : Nat → Nat} {v : Int32}, (∀ i, μ i < 256) → ∀ i, ga_wr μ a w v i < 256
  | 0, _, _, h => h
  | w + 1, μ, v, h => by
    unfold ga_wr
    exact ga_wr_lt (va_up_lt h (ga_lo_lt v))
theorem ga_z_lt {μ : Nat → Nat} {a m : Nat} (h : ∀ i, μ i < 256) : ∀ i, ga_z μ a m i < 256 := fun i => by
  unfold ga_z
  split
  · decide
  · exact h i
theorem ga_z_0 {μ : Nat → Nat} {a : Nat} : ga_z μ a 0 = μ := by
  funext i
  unfold ga_z
  rw [if_neg (by omega)]
theorem ga_z_s {μ : Nat → Nat} {a m : Nat} : va_up (ga_z μ a m) (a + m) 0 = ga_z μ a (m + 1) := by
  funext i
  unfold ga_z va_up
  by_cases h : i = a + m
  · subst h; simp
  · by_cases h2 : a ≤ i ∧ i < a + m
    · simp [h, h2, show i < a + (m + 1) by omega]
    · simp [h, h2, show ¬ (a ≤ i ∧ i < a + (m + 1)) by omega]
theorem ga_wr_up {a : Nat} : ∀ {w : Nat} {μ : Nat → Nat} {v : Int32} {j c : Nat}, a + w ≤ j → ga_wr (va_up μ j c) a w v = va_up (ga_wr μ a w v) j c
  | 0, _, _, _, _, _ => rfl
  | w + 1, μ, v, j, c, h => by
    unfold ga_wr
    have e : va_up (va_up μ j c) (a + w) (ga_lo v) = va_up (va_up μ (a + w) (ga_lo v)) j c := by
      funext i
      unfold va_up
      by_cases h1 : i = a + w
      · have : ¬ i = j := by omega
        simp [h1]; omega
      · simp [h1]
    rw [e]
    exact ga_wr_up (by omega)
/-- what is written over doesn't matter -/
theorem ga_wr_cong {a : Nat} : ∀ {w : Nat} {μ ν : Nat → Nat} {v : Int32}, (∀ i, (i < a ∨ a + w ≤ i) → μ i = ν i) → ga_wr μ a w v = ga_wr ν a w v
  | 0, μ, ν, _, h => funext fun i => h i (by omega)
  | w + 1, μ, ν, v, h => by
    unfold ga_wr
    refine ga_wr_cong fun i hi => ?_
    unfold va_up
    by_cases h1 : i = a + w
    · simp [h1]
    · simp only [h1, if_false]
      exact h i (by omega)
theorem ga_wr_z {μ : Nat → Nat} {a w : Nat} {v : Int32} : ga_wr (ga_z μ a w) a w v = ga_wr μ a w v := ga_wr_cong fun i hi => by
  unfold ga_z
  rw [if_neg (by omega)]
/-- a place that isn't written stays -/
theorem ga_wr_out {a : Nat} : ∀ {w : Nat} {μ : Nat → Nat} {v : Int32} {i : Nat}, (i < a ∨ a + w ≤ i) → ga_wr μ a w v i = μ i
  | 0, _, _, _, _ => rfl
  | w + 1, μ, v, i, h => by
    unfold ga_wr
    rw [ga_wr_out (by omega)]
    unfold va_up
    rw [if_neg (by omega)]
theorem ga_rd_cong {a : Nat} : ∀ {w : Nat} {μ ν : Nat → Nat}, (∀ i, a ≤ i → i < a + w → μ i = ν i) → ga_rd μ a w = ga_rd ν a w
  | 0, _, _, _ => rfl
  | w + 1, μ, ν, h => by
    unfold ga_rd
    rw [ga_rd_cong (w := w) fun i h1 h2 => h i h1 (by omega), h (a + w) (by omega) (by omega)]
theorem ga_lo_sb : ∀ c, c < 256 → ga_lo (sb_b c) = c := by decide +kernel
theorem ga_lo_i8 (v : Int32) : ga_lo v.toInt8.toInt32 = ga_lo v := by rw [ga_i8, ga_lo_sb _ (ga_lo_lt v)]
theorem gc_byte2 {μ : Nat → Nat} {j : Nat} {v : Int32} : upd (fun i => sb_b (μ i)) j v.toInt8.toInt32.toInt8.toInt32 = fun i => sb_b (va_up μ j (ga_lo v) i) := by
  rw [gc_byte, ga_lo_i8]
