/-! Marks of the row (frames and tokens, the last first), and what every state keeps. (The rows on bits are from kit/laws/BITS.) -/
def bt (x : Int32) (i : Nat) : Bool := x.toBitVec.getLsbD i
theorem b_ext {x y : Int32} (h : ∀ i, i < 32 → bt x i = bt y i) : x = y := Int32.toBitVec_inj.mp (BitVec.eq_of_getLsbD_eq (fun i hi => h i hi))
theorem b_or (x y : Int32) (i : Nat) : bt (x ||| y) i = (bt x i || bt y i) := by unfold bt; rw [Int32.toBitVec_or, BitVec.getLsbD_or]
theorem b_and (x y : Int32) (i : Nat) : bt (x &&& y) i = (bt x i && bt y i) := by unfold bt; rw [Int32.toBitVec_and, BitVec.getLsbD_and]
theorem b_big {x : Int32} {i : Nat} (h : 32 ≤ i) : bt x i = false := BitVec.getLsbD_of_ge _ _ h
theorem b_255 (i : Nat) : bt 255 i = decide (i < 8) := by
  rcases Nat.lt_or_ge i 32 with h | h
  · exact (by decide +kernel : ∀ i, i < 32 → bt 255 i = decide (i < 8)) i h
  · rw [b_big h, decide_eq_false (by omega)]
theorem b_0 (i : Nat) : bt 0 i = false := BitVec.getLsbD_zero
theorem s_l : ∀ n, n < 32 → ((nI n &&& 31).toBitVec.smod 32).toNat = n := by decide +kernel
theorem b_shl (n : Nat) (hn : n < 32) (x : Int32) {i : Nat} (hi : i < 32) : bt (x <<< (nI n &&& 31)) i = (decide (n ≤ i) && bt x (i - n)) := by
  unfold bt
  rw [Int32.toBitVec_shiftLeft]
  show (x.toBitVec <<< ((nI n &&& 31).toBitVec.smod 32).toNat).getLsbD i = _
  rw [s_l n hn, BitVec.getLsbD_shiftLeft]
  rcases Nat.lt_or_ge i n with h | h
  · simp [h, Nat.not_le.mpr h]
  · simp [hi, h, Nat.not_lt.mpr h]
theorem b_sshr (n : Nat) (hn : n < 32) (x : Int32) {i : Nat} (hi : i < 32) : bt (x >>> (nI n &&& 31)) i = if n + i < 32 then bt x (n + i) else bt x 31 := by
  unfold bt
  rw [Int32.toBitVec_shiftRight]
  show (x.toBitVec.sshiftRight ((nI n &&& 31).toBitVec.smod 32).toNat).getLsbD i = _
  rw [s_l n hn, BitVec.getLsbD_sshiftRight, BitVec.msb_eq_getLsbD_last]
  simp [hi]
theorem b_shl8 (x : Int32) {i : Nat} (hi : i < 32) : bt (x <<< ((8 : Int32) &&& 31)) i = (decide (8 ≤ i) && bt x (i - 8)) := b_shl 8 (by omega) x hi
theorem b_sshr8 (x : Int32) {i : Nat} (hi : i < 32) : bt (x >>> ((8 : Int32) &&& 31)) i = if 8 + i < 32 then bt x (8 + i) else bt x 31 := b_sshr 8 (by omega) x hi

def ga_w (μ : Nat → Nat) (a : Nat) : Nat := (ga_rd μ a 4).toBitVec.toNat
theorem ga_nI (x : Int32) : x = nI x.toBitVec.toNat := by
  apply Int32.toBitVec_inj.mp
  show x.toBitVec = BitVec.ofNat 32 x.toBitVec.toNat
  rw [BitVec.ofNat_toNat, BitVec.setWidth_eq]
theorem ga_rdw (μ : Nat → Nat) (a : Nat) : ga_rd μ a 4 = nI (ga_w μ a) := ga_nI _
theorem ga_w_of {μ : Nat → Nat} {a x : Nat} (h : ga_rd μ a 4 = nI x) (hx : x < 2 ^ 32) : ga_w μ a = x := by
  unfold ga_w
  rw [h]
  exact pk_tn hx
theorem ga_w_cong {μ ν : Nat → Nat} {a : Nat} (h : ∀ i, a ≤ i → i < a + 4 → μ i = ν i) : ga_w μ a = ga_w ν a := by
  unfold ga_w
  rw [ga_rd_cong h]
/-- four bytes written are read as they were -/
theorem ga_rd_wr (μ : Nat → Nat) (a : Nat) (v : Int32) : ga_rd (ga_wr μ a 4 v) a 4 = v := by
  have e8 : nI 8 = 8 := rfl
  have w : ga_wr μ a 4 v = ga_wr (va_up (va_up (va_up μ (a + 3) (ga_lo v)) (a + 2) (ga_lo (v >>> (nI 8 &&& 31)))) (a + 1) (ga_lo (v >>> (nI 8 &&& 31) >>> (nI 8 &&& 31)))) a 1 (v >>> (nI 8 &&& 31) >>> (nI 8 &&& 31) >>> (nI 8 &&& 31)) := rfl
  have h3 : ga_wr μ a 4 v (a + 3) = ga_lo v := by
    rw [w, ga_wr_out (by omega)]; unfold va_up; rw [if_neg (by omega), if_neg (by omega), if_pos rfl]
  have h2 : ga_wr μ a 4 v (a + 2) = ga_lo (v >>> (nI 8 &&& 31)) := by
    rw [w, ga_wr_out (by omega)]; unfold va_up; rw [if_neg (by omega), if_pos rfl]
  have h1 : ga_wr μ a 4 v (a + 1) = ga_lo (v >>> (nI 8 &&& 31) >>> (nI 8 &&& 31)) := by
    rw [w, ga_wr_out (by omega)]; unfold va_up; rw [if_pos rfl]
  have h0 : ga_wr μ a 4 v (a + 0) = ga_lo (v >>> (nI 8 &&& 31) >>> (nI 8 &&& 31) >>> (nI 8 &&& 31)) := by
    rw [w]
    show va_up _ (a + 0) _ (a + 0) = _
    unfold va_up; rw [if_pos rfl]
  unfold ga_rd
  unfold ga_rd
  unfold ga_rd
  unfold ga_rd
  unfold ga_rd
  rw [h0, h1, h2, h3, ← ga_and, ← ga_and, ← ga_and, ← ga_and, e8, nI_0, show nI 255 = 255 from rfl]
  refine b_ext fun i hi => ?_
  rcases Nat.lt_or_ge i 8 with c | c
  · rw [b_or, b_shl8 _ hi, b_and, b_255]
    simp [c, Nat.not_le.mpr c]
  · rw [b_or, b_shl8 _ hi, b_and, b_255, b_or, b_shl8 _ (by omega), b_and, b_255, b_sshr8 _ (by omega)]
    rcases Nat.lt_or_ge i 16 with c2 | c2
    · simp [c, show ¬ i < 8 by omega, show i - 8 < 8 by omega, show ¬ 8 ≤ i - 8 by omega, show 8 + (i - 8) = i by omega, hi]
    · rw [b_or, b_shl8 _ (by omega), b_and, b_255, b_sshr8 _ (by omega)]
      rcases Nat.lt_or_ge i 24 with c3 | c3
      · rw [b_sshr8 _ (by omega)]
        simp [c, show ¬ i < 8 by omega, show ¬ i - 8 < 8 by omega, show 8 ≤ i - 8 by omega, show i - 8 - 8 < 8 by omega, show ¬ 8 ≤ i - 8 - 8 by omega, show 8 + (8 + (i - 8 - 8)) = i by omega, show 8 + (i - 8 - 8) < 32 by omega, show i - 8 < 32 by omega, show ¬ 32 ≤ i - 8 by omega, hi]
      · rw [b_or, b_shl8 _ (by omega), b_and, b_255, b_sshr8 _ (by omega), b_sshr8 _ (by omega), b_sshr8 _ (by omega), b_0]
        simp [c, show ¬ i < 8 by omega, show ¬ i - 8 < 8 by omega, show 8 ≤ i - 8 by omega, show ¬ i - 8 - 8 < 8 by omega, show 8 ≤ i - 8 - 8 by omega, show i - 8 - 8 - 8 < 8 by omega, show 8 + (8 + (8 + (i - 8 - 8 - 8))) = i by omega, show 8 + (i - 8 - 8 - 8) < 32 by omega, show 8 + (8 + (i - 8 - 8 - 8)) < 32 by omega, show i - 8 < 32 by omega, show i - 8 - 8 < 32 by omega, hi]
theorem ga_rd_out {μ : Nat → Nat} {a b w : Nat} {v : Int32} (h : b + 4 ≤ a ∨ a + w ≤ b) : ga_rd (ga_wr μ a w v) b 4 = ga_rd μ b 4 := ga_rd_cong fun i h1 h2 => ga_wr_out (by omega)
/-! marks: (true, where a frame begins), (false, a token) -/
abbrev ga_M : Type := List (Bool × Nat)
def ga_top : ga_M → Option Nat
  | [] => none
  | (true, f) :: _ => some f
  | (false, _) :: es => ga_top es
def ga_tc : ga_M → Nat
  | [] => 0
  | (true, _) :: es => ga_tc es
  | (false, _) :: es => ga_tc es + 1
def ga_fc : ga_M → Nat
  | [] => 0
  | (true, _) :: es => ga_fc es + 1
  | (false, _) :: es => ga_fc es
/-- where values begin -/
def ga_base (μ : Nat → Nat) : ga_M → Nat
  | [] => 0
  | (true, f) :: _ => f + ga_w μ f
  | (false, t) :: _ => t
def ga_mk (μ : Nat → Nat) (lim : Nat) : ga_M → Prop
  | [] => True
  | (true, f) :: es => 16 ≤ f ∧ 12 ≤ ga_w μ (f + 4) ∧ ga_w μ (f + 4) ≤ ga_w μ f ∧ f + ga_w μ f ≤ lim ∧ ga_rd μ (f - 4) 4 = ga_fp (ga_top es) ∧ ga_mk μ (f - 16) es
  | (false, t) :: es => 16 ≤ t ∧ t ≤ lim ∧ ga_top es ≠ none ∧ ga_rd μ (t - 4) 4 = ga_fp (ga_top es) ∧ ga_mk μ (t - 16) es
/-- the row of tokens holds the live ones -/
def ga_tk (tk : Nat → Nat) : ga_M → Prop
  | [] => True
  | (true, _) :: es => ga_tk tk es
  | (false, t) :: es => tk (ga_tc es) = t ∧ ga_tk tk es
theorem ga_mk_mono {μ : Nat → Nat} {l1 l2 : Nat} (h : l1 ≤ l2) : ∀ {M : ga_M}, ga_mk μ l1 M → ga_mk μ l2 M
  | [], _ => trivial
  | (true, f) :: es, ⟨a, b, c, d, e⟩ => ⟨a, b, c, by omega, e⟩
  | (false, t) :: es, ⟨a, b, e⟩ => ⟨a, by omega, e⟩
/-- what isn't below the base doesn't matter -/
theorem ga_mk_cong {μ ν : Nat → Nat} : ∀ {M : ga_M} {lim : Nat}, ga_mk μ lim M → (∀ i, i < lim → μ i = ν i) → ga_mk ν lim M
  | [], _, _, _ => trivial
  | (true, f) :: es, lim, ⟨a, b, c, d, e, g⟩, h => by
    have h1 : ga_w μ f = ga_w ν f := ga_w_cong fun i h1 h2 => h i (by omega)
    have h2 : ga_w μ (f + 4) = ga_w ν (f + 4) := ga_w_cong fun i h1 h2 => h i (by omega)
    have h3 : ga_rd μ (f - 4) 4 = ga_rd ν (f - 4) 4 := ga_rd_cong fun i h1 h2 => h i (by omega)
    exact ⟨a, by rw [← h2]; exact b, by rw [← h1, ← h2]; exact c, by rw [← h1]; exact d, by rw [← h3]; exact e, ga_mk_cong g fun i hi => h i (by omega)⟩
  | (false, t) :: es, lim, ⟨a, b, c, d, e⟩, h => by
    have h3 : ga_rd μ (t - 4) 4 = ga_rd ν (t - 4) 4 := ga_rd_cong fun i h1 h2 => h i (by omega)
    exact ⟨a, b, c, by rw [← h3]; exact d, ga_mk_cong e fun i hi => h i (by omega)⟩
theorem ga_base_le {μ : Nat → Nat} {lim : Nat} : ∀ {M : ga_M}, ga_mk μ lim M → ga_base μ M ≤ lim
  | [], _ => Nat.zero_le _
  | (true, _) :: _, h => h.2.2.2.1
  | (false, _) :: _, h => h.2.1
/-- with its base as the limit -/
theorem ga_mk_base {μ : Nat → Nat} {lim : Nat} : ∀ {M : ga_M}, ga_mk μ lim M → ga_mk μ (ga_base μ M) M
  | [], _ => trivial
  | (true, _) :: _, ⟨a, b, c, d, e⟩ => ⟨a, b, c, Nat.le_refl _, e⟩
  | (false, _) :: _, ⟨a, b, e⟩ => ⟨a, Nat.le_refl _, e⟩
/-- a frame on the way down is a good one -/
theorem ga_mk_top {μ : Nat → Nat} : ∀ {M : ga_M} {lim f : Nat}, ga_mk μ lim M → ga_top M = some f → 16 ≤ f ∧ 12 ≤ ga_w μ (f + 4) ∧ ga_w μ (f + 4) ≤ ga_w μ f ∧ f + ga_w μ f ≤ lim
  | [], _, _, _, h => by cases h
  | (true, g) :: es, _, _, ⟨a, b, c, d, e⟩, h => by cases h; exact ⟨a, b, c, d⟩
  | (false, t) :: es, _, f, ⟨a, b, c, d, e⟩, h => by
    obtain ⟨h1, h2, h3, h4⟩ := ga_mk_top e h
    exact ⟨h1, h2, h3, by omega⟩
theorem ga_tc_le {μ : Nat → Nat} : ∀ {M : ga_M} {lim : Nat}, ga_mk μ lim M → 16 * ga_tc M + 16 * ga_fc M ≤ lim
  | [], lim, _ => by unfold ga_tc ga_fc; omega
  | (true, f) :: es, lim, ⟨a, b, c, d, e, g⟩ => by
    have := ga_tc_le g
    unfold ga_tc ga_fc
    omega
  | (false, t) :: es, lim, ⟨a, b, c, d, e⟩ => by
    have := ga_tc_le e
    unfold ga_tc ga_fc
    omega
/-- each token live is at most the limit -/
theorem ga_tk_le {μ : Nat → Nat} {tk : Nat → Nat} : ∀ {M : ga_M} {lim : Nat}, ga_mk μ lim M → ga_tk tk M → ∀ i, i < ga_tc M → 16 ≤ tk i ∧ tk i ≤ lim
  | [], _, _, _, i, hi => by unfold ga_tc at hi; omega
  | (true, f) :: es, lim, ⟨a, b, c, d, e, g⟩, ht, i, hi => by
    have := ga_tk_le g ht i hi
    omega
  | (false, t) :: es, lim, ⟨a, b, c, d, e⟩, ⟨t1, t2⟩, i, hi => by
    unfold ga_tc at hi
    by_cases h : i = ga_tc es
    · subst h; rw [t1]; exact ⟨a, b⟩
    · have := ga_tk_le e t2 i (by omega)
      omega
theorem ga_top_lt {μ : Nat → Nat} : ∀ {M : ga_M} {lim f : Nat}, ga_mk μ lim M → ga_top M = some f → f + 12 ≤ lim := by
  intro M lim f h ht
  have := ga_mk_top h ht
  omega
theorem ga_fp_inj {a b : Option Nat} (ha : ∀ f, a = some f → f < 2147483648) (hb : ∀ f, b = some f → f < 2147483648) (h : ga_fp a = ga_fp b) : a = b := by
  cases a with
  | none => cases b with
    | none => rfl
    | some g =>
      have e1 : -(nI 1) = nI g := h
      have : (nI g).toInt = -1 := by rw [← e1]; decide
      rw [nI_toInt (hb g rfl)] at this
      omega
  | some f => cases b with
    | none =>
      have e1 : nI f = -(nI 1) := h
      have : (nI f).toInt = -1 := by rw [e1]; decide
      rw [nI_toInt (ha f rfl)] at this
      omega
    | some g => exact congrArg some ((nI_eq (ha f rfl) (hb g rfl)).mp h)
theorem ga_fp_none {f : Nat} (h : f < 2147483648) : ¬ nI f = -(nI 1) := fun e => by
  have : (nI f).toInt = -1 := by rw [e]; decide
  rw [nI_toInt h] at this
  omega
