/-! What the printed tables must keep, site by site: by program (decide) in the next part. -/
/-- a word of lw_tbl at a place -/
def gx_tb : List Jvm.Cond := lw_tbl.filter goodWord
def gx_wd (ts : List Nat) (j : Nat) (w : Jvm.Cond) : Bool := match ts[j]? with
  | some q => decide (lw_tbl[q]? = some w) && goodWord w
  | none => false
theorem gx_wd_in {ts : List Nat} {j : Nat} {w : Jvm.Cond} (h : gx_wd ts j w = true) : w ∈ gx_tb := by
  unfold gx_wd at h
  split at h
  · rw [Bool.and_eq_true] at h
    exact List.mem_filter.mpr ⟨List.mem_of_getElem? (of_decide_eq_true h.1), h.2⟩
  · cases h
/-- links between nest mates: they ride apart -/
def gx_isn (w : Jvm.Cond) : Bool := match w with
  | .methodLinkNest _ _ _ _ => true
  | _ => false
def gx_nl : List Jvm.Cond := lw_tbl.filter gx_isn
def gx_wn (ts : List Nat) (j : Nat) (w : Jvm.Cond) : Bool := match ts[j]? with
  | some q => decide (lw_tbl[q]? = some w) && gx_isn w
  | none => false
theorem gx_wn_in {ts : List Nat} {j : Nat} {w : Jvm.Cond} (h : gx_wn ts j w = true) : w ∈ gx_nl := by
  unfold gx_wn at h
  split at h
  · rw [Bool.and_eq_true] at h
    exact List.mem_filter.mpr ⟨List.mem_of_getElem? (of_decide_eq_true h.1), h.2⟩
  · cases h
def gx_NL (U : State) : Prop := ∀ w ∈ gx_nl, va_Nw w U
theorem gx_NL_warm {s U : State} (hW : s.WarmedH U.vm) (h : gx_NL s) : gx_NL U := by
  intro w hw
  have h2 := (List.mem_filter.mp hw).2
  have h1 := h w hw
  unfold gx_isn at h2
  split at h2
  · exact va_Nw.warmM hW h1
  · cases h2
theorem gx_NL_same {s U : State} (hv : s.vm = U.vm) (h : gx_NL s) : gx_NL U := by
  intro w hw
  have h2 := (List.mem_filter.mp hw).2
  have h1 := h w hw
  unfold gx_isn at h2
  split at h2
  · exact va_Nw.same rfl hv h1
  · cases h2
def gx_pc (cd : List gx_T) (i : Nat) : Nat := match cd[i]? with
  | some e => e.1
  | none => 0
/-- the instruction stands there, and the next one behind it -/
def gx_st (bc : ByteArray) (cd : List gx_T) (i pc : Nat) (ins : Instr) (len : Nat) : Bool := decide (decode bc pc = .ok (ins, len)) && decide (gx_pc cd (i + 1) = pc + len)
def gx_jp (cd : List gx_T) (pc : Nat) (off : Int) (a : Nat) : Bool := decide ((pc : Int) + off = (gx_pc cd a : Int))
def gx_cv (v : Int32) (a b : Nat) : Bool := match b with
  | 0 => decide (v = nI a)
  | _ => decide (v = -(nI a))
/-- a method of the list: its name, its code's word, its class's -/
def gx_zk (z : Nat) (f : gx_M → Bool) : Bool := match gx_mt[z]? with
  | some e => f e
  | none => false
def gx_fld (own : String) (a b ix : Nat) (ts : List Nat) (f : u_T → Bool) : Bool := match vwCl[a]? with
  | some (_, T, N) => decide (b < N) && gx_wd ts 0 (.fieldLink own ix (T b).1 (T b).2.1 (T b).2.2.1) && f T
  | none => false
def gx_tk (c : Nat) (d : String) : Bool := match c with
  | 0 => decide (parseFieldDescriptor d = some .int)
  | _ => (match parseFieldDescriptor d with
    | some (.object _) => true
    | some (.array _) => true
    | _ => false)
def gx_pf (own mn : String) (c b : Nat) (T : u_T) : Bool := gx_tk c (T b).2.2.1 && (match (T b).2.2.2 with
  | true => decide ((T b).1 = own) && decide (mn = "<init>")
  | false => true)
def gx_of (cd : List gx_T) (pc : Nat) (offs : Array Int) (ts : List Nat) : Bool := (List.range ts.length).all fun j => match offs[j]?, ts[j]? with
  | some o, some t => gx_jp cd pc o t
  | _, _ => false
def gx_lk (cd : List gx_T) (pc b : Nat) (ps : Array (Int × Int)) (ts : List Nat) : Bool := (List.range ts.length).all fun j => match ps[j]?, ts[j]? with
  | some o, some t => decide (o.1 = ((b + j : Nat) : Int)) && gx_jp cd pc o.2 t
  | _, _ => false
def gx_ok (own mn : String) (bc : ByteArray) (ret : Option FieldType) (nL : Nat) (cd : List gx_T) (i : Nat) : Bool := match cd[i]? with
  | none => true
  | some (pc, ins, a, b, c, ts) => match ins with
    | .iconst v => gx_st bc cd i pc ins 1 && gx_cv (Int32.ofInt v) a b
    | .bipush v => gx_st bc cd i pc ins 2 && gx_cv (Int8.ofInt v).toInt32 a b
    | .sipush v => gx_st bc cd i pc ins 3 && gx_cv (Int16.ofInt v).toInt32 a b
    | .aconst_null => gx_st bc cd i pc ins 1
    | .lconst v => gx_st bc cd i pc ins 1 && decide (Int64.ofNat (v : Nat) = lN a)
    | .ldc2_w ix => gx_st bc cd i pc ins 3 && gx_wd ts 0 (.constantLong own ix (lN a))
    | .iload v => gx_st bc cd i pc ins 2 && decide (v = a)
    | .iload_n v => gx_st bc cd i pc ins 1 && decide ((v : Nat) = a)
    | .aload v => gx_st bc cd i pc ins 2 && decide (v = a)
    | .aload_n v => gx_st bc cd i pc ins 1 && decide ((v : Nat) = a)
    | .istore v => gx_st bc cd i pc ins 2 && decide (v = a) && decide (a < nL)
    | .istore_n v => gx_st bc cd i pc ins 1 && decide ((v : Nat) = a) && decide (a < nL)
    | .astore v => gx_st bc cd i pc ins 2 && decide (v = a) && decide (a < nL)
    | .astore_n v => gx_st bc cd i pc ins 1 && decide ((v : Nat) = a) && decide (a < nL)
    | .iinc v n => gx_st bc cd i pc ins 3 && decide (v = a) && decide (a < nL) && gx_cv (Int32.ofInt n) b c
    | .iadd => gx_st bc cd i pc ins 1
    | .isub => gx_st bc cd i pc ins 1
    | .imul => gx_st bc cd i pc ins 1
    | .idiv => gx_st bc cd i pc ins 1
    | .irem => gx_st bc cd i pc ins 1
    | .ineg => gx_st bc cd i pc ins 1
    | .ishl => gx_st bc cd i pc ins 1
    | .ishr => gx_st bc cd i pc ins 1
    | .iand => gx_st bc cd i pc ins 1
    | .ior => gx_st bc cd i pc ins 1
    | .ixor => gx_st bc cd i pc ins 1
    | .i2b => gx_st bc cd i pc ins 1
    | .i2l => gx_st bc cd i pc ins 1
    | .dup => gx_st bc cd i pc ins 1
    | .dup2 => gx_st bc cd i pc ins 1
    | .goto off => decide (decode bc pc = .ok (ins, 3)) && gx_jp cd pc off a
    | .if_icmp _ off => gx_st bc cd i pc ins 3 && gx_jp cd pc off a
    | .ifCond _ off => gx_st bc cd i pc ins 3 && gx_jp cd pc off a
    | .ifnull off => gx_st bc cd i pc ins 3 && gx_jp cd pc off a
    | .ifnonnull off => gx_st bc cd i pc ins 3 && gx_jp cd pc off a
    | .tableswitch df lo hi offs => decide (decode bc pc = .ok (ins, c)) && gx_jp cd pc df a && decide (lo = (b : Int)) && decide (hi = ((b + ts.length : Nat) : Int) - 1) && gx_of cd pc offs ts && decide (b + ts.length < 1000)
    | .lookupswitch df ps => decide (decode bc pc = .ok (ins, c)) && gx_jp cd pc df a && decide (ps.size = ts.length) && gx_lk cd pc b ps ts && decide (b + ts.length < 1000) && (ps.toList.zip (ps.toList.drop 1)).all (fun (a, next) => a.1 < next.1)
    | .getfield ix => gx_st bc cd i pc ins 3 && gx_fld own a b ix ts fun _ => true
    | .putfield ix => gx_st bc cd i pc ins 3 && gx_fld own a b ix ts (gx_pf own mn c b)
    | .arraylength => gx_st bc cd i pc ins 1
    | .iaload => gx_st bc cd i pc ins 1
    | .baload => gx_st bc cd i pc ins 1
    | .iastore => gx_st bc cd i pc ins 1
    | .bastore => gx_st bc cd i pc ins 1
    | .aaload => gx_st bc cd i pc ins 1
    | .aastore => gx_st bc cd i pc ins 1
    | .newarray at_ => gx_st bc cd i pc ins 2 && gx_wd ts 0 (.arrayClass (newarray.typeOf at_)) && (match a with
      | 0 => decide (at_ = .int)
      | 1 => decide (at_ = .byte)
      | _ => false)
    | .anewarray ix => gx_st bc cd i pc ins 3 && gx_wd ts 0 (.classLink own ix RX0)
    | .new ix => gx_st bc cd i pc ins 3 && decide (a < 4) && (match vwCl[a]? with
      | some (C, _, N) => gx_wd ts 0 (.classLink own ix C) && gx_wd ts 1 (.instantiable C N) && gx_wd ts 2 (.initialized C)
      | none => false)
    | .invokevirtual ix => gx_st bc cd i pc ins 3 && gx_zk a fun e => gx_wd ts 0 (.methodLink own ix e.1) && decide (b = e.2.2.2.2.1) && decide (e.2.2.2.2.2.1 = 1) && gx_wd e.2.2.2.2.2.2.2 3 (.selects e.1.cls e.1 e.1) && (match vwCl[c]? with
      | some (C, _, _) => decide (C = e.1.cls)
      | none => false)
    | .invokestatic ix => gx_st bc cd i pc ins 3 && gx_zk a fun e => gx_wd ts 0 (.methodLink own ix e.1) && decide (e.2.2.2.2.2.1 = 0) && (match c with
      | 0 => decide (b = e.2.2.2.2.1)
      | _ => decide (a = 80) && decide (e.1 = yX3_in))
    | .invokespecial ix => gx_st bc cd i pc ins 3 && (match c with
      | 99 => gx_wd ts 0 (.methodLink own ix objectInit) && gx_wd ts 1 (.instanceMethod objectInit) && gx_wd ts 2 (.code objectInit ⟨#[0xb1]⟩ 1 none)
      | _ => gx_zk a fun e => decide (b = e.2.2.2.2.1) && decide (e.2.2.2.2.2.1 = 1) && decide (e.1.name = "<init>") && decide (e.2.2.2.1 = none) && (match vwCl[c % 50]? with
        | some (C, _, _) => decide (C = e.1.cls)
        | none => false) && (match decide (c < 50) with
        | true => gx_wd ts 0 (.methodLink own ix e.1)
        | false => gx_wn ts 0 (.methodLinkNest own ix e.1 RX2)))
    | .ireturn => decide (decode bc pc = .ok (ins, 1)) && (match b with
      | 0 => decide (ret = some .int)
      | _ => decide (ret = some .boolean))
    | .areturn => decide (decode bc pc = .ok (ins, 1)) && (match ret with
      | some (.object _) => true
      | some (.array _) => true
      | _ => false)
    | .return_ => decide (decode bc pc = .ok (ins, 1)) && decide (ret = none)
    | _ => false
/-- a method of the list -/
def gx_zok (e : gx_M) : Bool := match e with
  | (y, bc, nL, ret, na, kd, cd, ws) =>
    gx_wd ws 0 (.code y bc nL ret) && gx_wd ws 1 (.initialized y.cls) && decide (y.cls ≠ "java/lang/invoke/MethodHandle") && decide (y.cls ≠ "java/lang/invoke/VarHandle") && plainFor y && decide (nL ≤ 8) && decide (na ≤ nL) &&
    (match kd with
      | 0 => gx_wd ws 2 (.static y) && decide ((parseMethodDescriptor y.desc).map (fun d => d.parameters.length) = some na)
      | _ => gx_wd ws 2 (.instanceMethod y) && decide (0 < na) && decide ((parseMethodDescriptor y.desc).map (fun d => d.parameters.length) = some (na - 1))) &&
    (List.range cd.length).all (gx_ok y.cls y.name bc ret nL cd)
