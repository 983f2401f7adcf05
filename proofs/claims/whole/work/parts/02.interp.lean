/-! A small machine of our own over abstract cells (addresses from 0 on), as a least fixed point: gx_E says that the code comes to its end with Q. Part 04 ties it to the kit's machine once for all. -/
/-- a cell: an int or byte array (tag 0, 1), an array of references, an object (class, fields) -/
abbrev gx_A : Type := (Nat × Nat × (Nat → Int32)) ⊕ ((Nat × (Nat → Option Nat)) ⊕ (Nat × List Value))
abbrev gx_H : Type := List gx_A
abbrev gx_L : Type := List (Option Value)
/-- pc, instruction, three numbers (what the instruction's own words come to), places -/
abbrev gx_T : Type := Nat × Instr × Nat × Nat × Nat × List Nat
abbrev gx_Q : Type := Option Value → gx_H → Prop
abbrev gx_K : Type := Nat → gx_L → List Value → gx_H → Nat → Nat → Prop
/-- a call: method, cells and slots that it may make, arguments, heap, what holds behind it -/
abbrev gx_C : Type := Nat → Nat → Nat → List Value → gx_H → gx_Q → Prop
def gx_I1 (st : List Value) (f : Int32 → List Value → Prop) : Prop := match st with
  | .int x :: r => f x r
  | _ => False
def gx_I2 (st : List Value) (f : Int32 → Int32 → List Value → Prop) : Prop := match st with
  | .int y :: .int x :: r => f x y r
  | _ => False
def gx_R1 (st : List Value) (f : Value → List Value → Prop) : Prop := match st with
  | .ref q :: r => f (.ref q) r
  | .null :: r => f .null r
  | .retAddr q :: r => f (.retAddr q) r
  | _ => False
def gx_b (b : Nat) (x y : Prop) : Prop := match b with
  | 0 => x
  | _ => y
def gx_li (L : gx_L) (a : Nat) (f : Int32 → Prop) : Prop := match L[a]? with
  | some (some (.int x)) => f x
  | _ => False
def gx_la (L : gx_L) (a : Nat) (f : Value → Prop) : Prop := match L[a]? with
  | some (some (.ref q)) => f (.ref q)
  | some (some .null) => f .null
  | some (some (.retAddr q)) => f (.retAddr q)
  | _ => False
/-- the fields of an object of a class -/
def gx_ob (h : gx_H) (q ci : Nat) (f : List Value → Prop) : Prop := match h[q]? with
  | some (.inr (.inr (c, fs))) => (match Nat.beq c ci with
    | true => f fs
    | false => False)
  | _ => False
def gx_fd (fs : List Value) (k : Nat) (f : Value → Prop) : Prop := match fs[k]? with
  | some v => f v
  | none => False
/-- a value of the kind of a field: 0 an int, else a reference -/
def gx_kd (c : Nat) (v : Value) (P : Prop) : Prop := match c, v with
  | 0, .int _ => P
  | 1, .ref _ => P
  | _, _ => False
def gx_ln (h : gx_H) (q : Nat) (f : Nat → Prop) : Prop := match h[q]? with
  | some (.inl (0, n, _)) => f n
  | some (.inl (1, n, _)) => f n
  | some (.inr (.inl (n, _))) => f n
  | _ => False
def gx_a0 (h : gx_H) (q : Nat) (f : Nat → (Nat → Int32) → Prop) : Prop := match h[q]? with
  | some (.inl (0, n, g)) => f n g
  | _ => False
def gx_a1 (h : gx_H) (q : Nat) (f : Nat → (Nat → Int32) → Prop) : Prop := match h[q]? with
  | some (.inl (1, n, g)) => f n g
  | _ => False
def gx_a2 (h : gx_H) (q : Nat) (f : Nat → (Nat → Option Nat) → Prop) : Prop := match h[q]? with
  | some (.inr (.inl (n, g))) => f n g
  | _ => False
def gx_cat (vs : List Value) : Nat := (vs.map fun v => v.category).sum
def gx_inv (CALL : gx_C) (z : Nat) (av rest : List Value) (h : gx_H) (cb sb : Nat) (kk : Option Value → gx_H → Nat → Nat → Prop) : Prop :=
  gx_cat rest ≤ 8 ∧ ∃ (mc ms : Nat) (Q' : gx_Q), mc ≤ cb ∧ ms ≤ sb ∧ CALL z mc ms av h Q' ∧ ∀ r h1, Q' r h1 → kk r h1 (cb - mc) (sb - ms)
/-- a call on an object: of its class -/
def gx_own (h : gx_H) (c : Nat) (av : List Value) : Prop := match av with
  | .ref q :: _ => ∃ fs, h[q]? = some (.inr (.inr (c, fs)))
  | _ => False
/-- in(long, long, long) -/
def gx_in (st : List Value) (f : Int64 → Int64 → Int64 → List Value → Prop) : Prop := match st with
  | .long z :: .long y :: .long x :: r => f x y z r
  | _ => False
def gx_sw (x : Int32) (k : Nat → Prop) : List Nat → Nat → Prop
  | [], _ => True
  | t :: ts, j => (x = nI j → k t) ∧ gx_sw x k ts (j + 1)
/-- the fields of a new object -/
def gx_df (a : Nat) : List Value := match a with
  | 0 => [.int 0, .int 0, .int 0, .null, .null]
  | 1 => [.null, .int 0]
  | 2 => [.null, .null, .null, .null, .int 0, .null, .int 0, .int 0, .int 0]
  | 3 => [.int 0, .null, .int 0, .int 0, .int 0, .null, .null, .null, .null, .null, .null, .null, .int 0, .int 0, .null]
  | _ => []
def gx_1 (LL : Nat) (xs : Nat → Int32) (CALL : gx_C) (cd : List gx_T) (Q : gx_Q) (k : gx_K) : gx_K := fun i L st h cb sb =>
  match cd[i]? with
  | none => False
  | some (_, ins, a, b, c, ts) =>
    match ins with
    | .iconst _ => gx_b b (k (i + 1) L (.int (nI a) :: st) h cb sb) (k (i + 1) L (.int (-(nI a)) :: st) h cb sb)
    | .bipush _ => gx_b b (k (i + 1) L (.int (nI a) :: st) h cb sb) (k (i + 1) L (.int (-(nI a)) :: st) h cb sb)
    | .sipush _ => gx_b b (k (i + 1) L (.int (nI a) :: st) h cb sb) (k (i + 1) L (.int (-(nI a)) :: st) h cb sb)
    | .aconst_null => k (i + 1) L (.null :: st) h cb sb
    | .lconst _ => k (i + 1) L (.long (lN a) :: st) h cb sb
    | .ldc2_w _ => k (i + 1) L (.long (lN a) :: st) h cb sb
    | .iload _ => gx_li L a fun x => k (i + 1) L (.int x :: st) h cb sb
    | .iload_n _ => gx_li L a fun x => k (i + 1) L (.int x :: st) h cb sb
    | .aload _ => gx_la L a fun v => k (i + 1) L (v :: st) h cb sb
    | .aload_n _ => gx_la L a fun v => k (i + 1) L (v :: st) h cb sb
    | .istore _ => gx_I1 st fun x r => k (i + 1) (L.set a (some (.int x))) r h cb sb
    | .istore_n _ => gx_I1 st fun x r => k (i + 1) (L.set a (some (.int x))) r h cb sb
    | .astore _ => gx_R1 st fun v r => k (i + 1) (L.set a (some v)) r h cb sb
    | .astore_n _ => gx_R1 st fun v r => k (i + 1) (L.set a (some v)) r h cb sb
    | .iinc _ _ => gx_li L a fun x => gx_b c (k (i + 1) (L.set a (some (.int (x + nI b)))) st h cb sb) (k (i + 1) (L.set a (some (.int (x - nI b)))) st h cb sb)
    | .iadd => gx_I2 st fun x y r => k (i + 1) L (.int (x + y) :: r) h cb sb
    | .isub => gx_I2 st fun x y r => k (i + 1) L (.int (x - y) :: r) h cb sb
    | .imul => gx_I2 st fun x y r => k (i + 1) L (.int (x * y) :: r) h cb sb
    | .idiv => gx_I2 st fun x y r => ¬ y = 0 ∧ k (i + 1) L (.int (x / y) :: r) h cb sb
    | .irem => gx_I2 st fun x y r => ¬ y = 0 ∧ k (i + 1) L (.int (x - x / y * y) :: r) h cb sb
    | .ineg => gx_I1 st fun x r => k (i + 1) L (.int (-x) :: r) h cb sb
    | .ishl => gx_I2 st fun x y r => k (i + 1) L (.int (x <<< (y &&& 31)) :: r) h cb sb
    | .ishr => gx_I2 st fun x y r => k (i + 1) L (.int (x >>> (y &&& 31)) :: r) h cb sb
    | .iand => gx_I2 st fun x y r => k (i + 1) L (.int (x &&& y) :: r) h cb sb
    | .ior => gx_I2 st fun x y r => k (i + 1) L (.int (x ||| y) :: r) h cb sb
    | .ixor => gx_I2 st fun x y r => k (i + 1) L (.int (x ^^^ y) :: r) h cb sb
    | .i2b => gx_I1 st fun x r => k (i + 1) L (.int x.toInt8.toInt32 :: r) h cb sb
    | .i2l => gx_I1 st fun x r => k (i + 1) L (.long x.toInt64 :: r) h cb sb
    | .dup => (match st with
      | .int x :: r => k (i + 1) L (.int x :: .int x :: r) h cb sb
      | .ref x :: r => k (i + 1) L (.ref x :: .ref x :: r) h cb sb
      | _ => False)
    | .dup2 => (match st with
      | .int y :: .ref x :: r => k (i + 1) L (.int y :: .ref x :: .int y :: .ref x :: r) h cb sb
      | _ => False)
    | .goto _ => k a L st h cb sb
    | .if_icmp cnd _ => gx_I2 st fun x y r => (match cnd with
      | .eq => (x = y → k a L r h cb sb) ∧ (¬ x = y → k (i + 1) L r h cb sb)
      | .ne => (¬ x = y → k a L r h cb sb) ∧ (x = y → k (i + 1) L r h cb sb)
      | .lt => (x < y → k a L r h cb sb) ∧ (¬ x < y → k (i + 1) L r h cb sb)
      | .ge => (y ≤ x → k a L r h cb sb) ∧ (¬ y ≤ x → k (i + 1) L r h cb sb)
      | .gt => (y < x → k a L r h cb sb) ∧ (¬ y < x → k (i + 1) L r h cb sb)
      | .le => (x ≤ y → k a L r h cb sb) ∧ (¬ x ≤ y → k (i + 1) L r h cb sb))
    | .ifCond cnd _ => gx_I1 st fun x r => (match cnd with
      | .eq => (x = 0 → k a L r h cb sb) ∧ (¬ x = 0 → k (i + 1) L r h cb sb)
      | .ne => (¬ x = 0 → k a L r h cb sb) ∧ (x = 0 → k (i + 1) L r h cb sb)
      | .lt => (x < 0 → k a L r h cb sb) ∧ (¬ x < 0 → k (i + 1) L r h cb sb)
      | .ge => (0 ≤ x → k a L r h cb sb) ∧ (¬ 0 ≤ x → k (i + 1) L r h cb sb)
      | .gt => (0 < x → k a L r h cb sb) ∧ (¬ 0 < x → k (i + 1) L r h cb sb)
      | .le => (x ≤ 0 → k a L r h cb sb) ∧ (¬ x ≤ 0 → k (i + 1) L r h cb sb))
    | .ifnull _ => (match st with
      | .ref _ :: r => k (i + 1) L r h cb sb
      | .null :: r => k a L r h cb sb
      | _ => False)
    | .ifnonnull _ => (match st with
      | .ref _ :: r => k a L r h cb sb
      | .null :: r => k (i + 1) L r h cb sb
      | _ => False)
    | .tableswitch _ _ _ _ => gx_I1 st fun x r => ((∀ j, j < ts.length → ¬ x = nI (b + j)) → k a L r h cb sb) ∧ gx_sw x (fun t => k t L r h cb sb) ts b
    | .lookupswitch _ _ => gx_I1 st fun x r => ((∀ j, j < ts.length → ¬ x = nI (b + j)) → k a L r h cb sb) ∧ gx_sw x (fun t => k t L r h cb sb) ts b
    | .getfield _ => (match st with
      | .ref q :: r => gx_ob h q a fun fs => gx_fd fs b fun v => k (i + 1) L (v :: r) h cb sb
      | _ => False)
    | .putfield _ => (match st with
      | v :: .ref q :: r => gx_ob h q a fun fs => gx_fd fs b fun _ => gx_kd c v (k (i + 1) L r (h.set q (.inr (.inr (a, fs.set b v)))) cb sb)
      | _ => False)
    | .arraylength => (match st with
      | .ref q :: r => gx_ln h q fun n => k (i + 1) L (.int (nI n) :: r) h cb sb
      | .retAddr _ :: r => k (i + 1) L (.int (nI LL) :: r) h cb sb
      | _ => False)
    | .iaload => (match st with
      | .int x :: .ref q :: r => gx_a0 h q fun n g => ∃ j, x = nI j ∧ j < n ∧ n < 2147483648 ∧ k (i + 1) L (.int (g j) :: r) h cb sb
      | .int x :: .retAddr _ :: r => ∃ j, x = nI j ∧ j < LL ∧ LL < 2147483648 ∧ k (i + 1) L (.int (xs j) :: r) h cb sb
      | _ => False)
    | .baload => (match st with
      | .int x :: .ref q :: r => gx_a1 h q fun n g => ∃ j, x = nI j ∧ j < n ∧ n < 2147483648 ∧ k (i + 1) L (.int (g j) :: r) h cb sb
      | _ => False)
    | .iastore => (match st with
      | .int v :: .int x :: .ref q :: r => gx_a0 h q fun n g => ∃ j, x = nI j ∧ j < n ∧ n < 2147483648 ∧ k (i + 1) L r (h.set q (.inl (0, n, upd g j v))) cb sb
      | _ => False)
    | .bastore => (match st with
      | .int v :: .int x :: .ref q :: r => gx_a1 h q fun n g => ∃ j, x = nI j ∧ j < n ∧ n < 2147483648 ∧ k (i + 1) L r (h.set q (.inl (1, n, upd g j v.toInt8.toInt32))) cb sb
      | _ => False)
    | .aaload => (match st with
      | .int x :: .ref q :: r => gx_a2 h q fun n g => ∃ j, x = nI j ∧ j < n ∧ n < 2147483648 ∧ k (i + 1) L (va_rf (g j) :: r) h cb sb
      | _ => False)
    | .aastore => (match st with
      | .ref w :: .int x :: .ref q :: r => gx_a2 h q fun n g => ∃ j, x = nI j ∧ j < n ∧ n < 2147483648 ∧ gx_own h 0 [.ref w] ∧ k (i + 1) L r (h.set q (.inr (.inl (n, va_up g j (some w))))) cb sb
      | _ => False)
    | .newarray _ => gx_I1 st fun x r => ∃ n, x = nI n ∧ n ≤ 65536 ∧ 1 ≤ cb ∧ n ≤ sb ∧ k (i + 1) L (.ref h.length :: r) (h ++ [.inl (a, n, fun _ => 0)]) (cb - 1) (sb - n)
    | .anewarray _ => gx_I1 st fun x r => ∃ n, x = nI n ∧ n ≤ 65536 ∧ 1 ≤ cb ∧ n ≤ sb ∧ k (i + 1) L (.ref h.length :: r) (h ++ [.inr (.inl (n, fun _ => none))]) (cb - 1) (sb - n)
    | .new _ => 1 ≤ cb ∧ (gx_df a).length ≤ sb ∧ k (i + 1) L (.ref h.length :: st) (h ++ [.inr (.inr (a, gx_df a))]) (cb - 1) (sb - (gx_df a).length)
    | .invokevirtual _ => gx_own h c (st.take b).reverse ∧ gx_inv CALL a (st.take b).reverse (st.drop b) h cb sb fun r h1 cb sb => k (i + 1) L (r.toList ++ st.drop b) h1 cb sb
    | .invokestatic _ => gx_b c (gx_inv CALL a (st.take b).reverse (st.drop b) h cb sb fun r h1 cb sb => k (i + 1) L (r.toList ++ st.drop b) h1 cb sb)
        (gx_in st fun x y z r => gx_cat r ≤ 8 ∧ ((y ≤ x ∧ x ≤ z → k (i + 1) L (.int (nI 1) :: r) h cb sb) ∧ (¬ (y ≤ x ∧ x ≤ z) → k (i + 1) L (.int (nI 0) :: r) h cb sb)))
    | .invokespecial _ => (match c with
      | 99 => (match st with
        | .ref _ :: r => gx_cat r ≤ 8 ∧ k (i + 1) L r h cb sb
        | _ => False)
      | _ => gx_own h (c % 50) (st.take b).reverse ∧ gx_inv CALL a (st.take b).reverse (st.drop b) h cb sb fun r h1 cb sb => r = none ∧ k (i + 1) L (st.drop b) h1 cb sb)
    | .ireturn => (match st with
      | [.int x] => gx_b b (Q (some (.int x)) h) ((x = nI 0 ∨ x = nI 1) ∧ Q (some (.int x)) h)
      | _ => False)
    | .areturn => (match st with
      | [.ref q] => Q (some (.ref q)) h
      | [.null] => Q (some .null) h
      | _ => False)
    | .return_ => (match st with
      | [] => Q none h
      | _ => False)
    | _ => False
/-- comes to its end with Q: the least fixed point of gx_1 -/
def gx_E (LL : Nat) (xs : Nat → Int32) (CALL : gx_C) (cd : List gx_T) (Q : gx_Q) : gx_K := fun i L st h cb sb =>
  ∀ P : gx_K, (∀ k : gx_K, (∀ i L st h cb sb, k i L st h cb sb → P i L st h cb sb) → ∀ i L st h cb sb, gx_1 LL xs CALL cd Q k i L st h cb sb → P i L st h cb sb) → P i L st h cb sb
/-- n instructions on -/
def gx_n (LL : Nat) (xs : Nat → Int32) (CALL : gx_C) (cd : List gx_T) (Q : gx_Q) (z : gx_K) : Nat → gx_K
  | 0 => z
  | n + 1 => gx_1 LL xs CALL cd Q (gx_n LL xs CALL cd Q z n)
theorem gx_fold {LL : Nat} {xs : Nat → Int32} {CALL : gx_C} {cd : List gx_T} {Q : gx_Q} {k : gx_K} (hk : ∀ i L st h cb sb, k i L st h cb sb → gx_E LL xs CALL cd Q i L st h cb sb) {i : Nat} {L : gx_L} {st : List Value} {h : gx_H} {cb sb : Nat}
    (h1 : gx_1 LL xs CALL cd Q k i L st h cb sb) : gx_E LL xs CALL cd Q i L st h cb sb :=
  fun P hP => hP k (fun i L st h cb sb hh => hk i L st h cb sb hh P hP) i L st h cb sb h1
theorem gx_run {LL : Nat} {xs : Nat → Int32} {CALL : gx_C} {cd : List gx_T} {Q : gx_Q} (n : Nat) : ∀ {i : Nat} {L : gx_L} {st : List Value} {h : gx_H} {cb sb : Nat}, gx_n LL xs CALL cd Q (gx_E LL xs CALL cd Q) n i L st h cb sb → gx_E LL xs CALL cd Q i L st h cb sb := by
  induction n with
  | zero => intro i L st h cb sb hh; exact hh
  | succ n ih => intro i L st h cb sb hh; exact gx_fold (k := gx_n LL xs CALL cd Q (gx_E LL xs CALL cd Q) n) (fun i L st h cb sb hx => ih hx) hh
/-- what holds behind it may be weakened -/
theorem gx_1_post {LL : Nat} {xs : Nat → Int32} {CALL : gx_C} {cd : List gx_T} {Q Q2 : gx_Q} {k : gx_K} (hq : ∀ r h, Q r h → Q2 r h) {i : Nat} {L : gx_L} {st : List Value} {h : gx_H} {cb sb : Nat} (h1 : gx_1 LL xs CALL cd Q k i L st h cb sb) : gx_1 LL xs CALL cd Q2 k i L st h cb sb := by
  unfold gx_1 at h1 ⊢
  cases hc : cd[i]? with
  | none => rw [hc] at h1; exact h1
  | some e =>
    obtain ⟨pc, ins, a, b, c, ts⟩ := e
    rw [hc] at h1
    cases ins <;> first | exact h1 | skip
    · -- areturn
      dsimp only at h1 ⊢
      split at h1
      · exact hq _ _ h1
      · exact hq _ _ h1
      · exact h1.elim
    · -- ireturn
      dsimp only at h1 ⊢
      split at h1
      · unfold gx_b at h1 ⊢
        split at h1
        · exact hq _ _ h1
        · exact ⟨h1.1, hq _ _ h1.2⟩
      · exact h1.elim
    · dsimp only at h1 ⊢
      split at h1
      · exact hq _ _ h1
      · exact h1.elim
theorem gx_post {LL : Nat} {xs : Nat → Int32} {CALL : gx_C} {cd : List gx_T} {Q Q2 : gx_Q} (hq : ∀ r h, Q r h → Q2 r h) {i : Nat} {L : gx_L} {st : List Value} {h : gx_H} {cb sb : Nat} (h1 : gx_E LL xs CALL cd Q i L st h cb sb) : gx_E LL xs CALL cd Q2 i L st h cb sb :=
  h1 (gx_E LL xs CALL cd Q2) fun _ hk _ _ _ _ _ _ hh => gx_fold hk (gx_1_post hq hh)
