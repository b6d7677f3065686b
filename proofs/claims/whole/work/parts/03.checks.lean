/-! What the tables of part 02 say, checked against the bytes and the words by evaluation. -/
def am_op (m i : Nat) : Option am_O := (am_codes.getD m [])[i]?
def am_mt (m : Nat) : MethodName × ByteArray × Nat × Option FieldType := am_mts.getD m (⟨"", "", ""⟩, ⟨#[]⟩, 0, none)
def am_y (m : Nat) : MethodName := (am_mt m).1
def am_b (m : Nat) : ByteArray := (am_mt m).2.1
def am_mL (m : Nat) : Nat := (am_mt m).2.2.1
def am_r (m : Nat) : Option FieldType := (am_mt m).2.2.2
def am_pc (m i : Nat) : Nat := match am_op m i with
  | some o => o.2.1
  | none => 0
/-- the word at place k is w -/
def am_w (k : Nat) (w : Cond) : Bool := decide (lw_tbl[k]? = some w)
def am_kd (ci : Nat) : vw_C := am_cl.getD ci ("", fun _ => ("", "", "", false), 0)
def am_tys : List FieldType := [.int, .boolean, .array .int, .object "RoundBench$Algorithm"]
def am_nm (s : String) : Bool := decide (s ≠ "java/lang/invoke/MethodHandle") && decide (s ≠ "java/lang/invoke/VarHandle")
def am_np (y : MethodName) (n : Nat) : Bool := decide ((parseMethodDescriptor y.desc).map (fun d => d.parameters.length) = some n)
/-- what each instruction asks of the tables, its decoding apart -/
def am_cx (m i : Nat) (ins : Instr) (pc a b : Nat) (v : Int32) (ws : List Nat) : Bool := match ins with
  | .aconst_null | .iaload | .aaload | .baload | .iastore | .aastore | .bastore | .pop | .dup | .dup2 | .iadd | .isub | .imul | .irem | .ishr | .iand | .ixor | .arraylength => am_pc m (i + 1) == pc + 1
  | .iconst n => (am_pc m (i + 1) == pc + 1) && decide (Int32.ofInt n = v)
  | .bipush n => (am_pc m (i + 1) == pc + 2) && decide ((Int8.ofInt n).toInt32 = v)
  | .sipush n => (am_pc m (i + 1) == pc + 3) && decide ((Int16.ofInt n).toInt32 = v)
  | .ldc k => (am_pc m (i + 1) == pc + 2) && am_w (ws.getD 0 0) (.constant (am_y m).cls k v)
  | .iload k | .aload k => (am_pc m (i + 1) == pc + 2) && (k == a)
  | .istore k | .astore k => (am_pc m (i + 1) == pc + 2) && (k == a) && decide (a < am_mL m)
  | .iload_n k | .aload_n k => (am_pc m (i + 1) == pc + 1) && (k.val == a)
  | .istore_n k | .astore_n k => (am_pc m (i + 1) == pc + 1) && (k.val == a) && decide (a < am_mL m)
  | .iinc k n => (am_pc m (i + 1) == pc + 3) && (k == a) && decide (a < am_mL m) && decide (Int32.ofInt n = v)
  | .ifCond _ off | .if_icmp _ off | .ifnull off | .ifnonnull off => (am_pc m (i + 1) == pc + 3) && decide ((pc : Int) + off = (am_pc m a : Int))
  | .goto off => decide ((pc : Int) + off = (am_pc m a : Int))
  | .tableswitch dflt lo hi offs => decide ((pc : Int) + dflt = (am_pc m a : Int)) && decide (lo = v.toInt) && decide (hi = lo + b - 1) && decide (offs.toList.map (fun o => (pc : Int) + o) = ws.map (fun j => (am_pc m j : Int))) && (ws.length == b)
  | .ireturn => decide (am_r m = some .int) || decide (am_r m = some .boolean)
  | .return_ => decide (am_r m = none)
  | .getfield k => (am_pc m (i + 1) == pc + 3) && decide (a < am_cl.length) && decide (b < (am_kd a).2.2) && am_w (ws.getD 0 0) (.fieldLink (am_y m).cls k ((am_kd a).2.1 b).1 ((am_kd a).2.1 b).2.1 ((am_kd a).2.1 b).2.2.1)
  | .putfield k => (am_pc m (i + 1) == pc + 3) && decide (a < am_cl.length) && decide (b < (am_kd a).2.2) && am_w (ws.getD 0 0) (.fieldLink (am_y m).cls k ((am_kd a).2.1 b).1 ((am_kd a).2.1 b).2.1 ((am_kd a).2.1 b).2.2.1) && (!((am_kd a).2.1 b).2.2.2 || (decide ((am_y m).name = "<init>") && decide (((am_kd a).2.1 b).1 = (am_y m).cls)))
  | .invokevirtual k => (am_pc m (i + 1) == pc + 3) && (if v = 1 then am_w (ws.getD 0 0) (.methodLink (am_y m).cls k (am_vx.getD a ⟨"", "", ""⟩)) && am_w (ws.getD 1 0) (.sameMethod (am_vx.getD a ⟨"", "", ""⟩).cls (am_vx.getD a ⟨"", "", ""⟩).cls (am_vx.getD a ⟨"", "", ""⟩).name (am_vx.getD a ⟨"", "", ""⟩).desc) && am_w (ws.getD 2 0) (.declares (am_vx.getD a ⟨"", "", ""⟩)) && am_nm (am_vx.getD a ⟨"", "", ""⟩).cls && am_np (am_vx.getD a ⟨"", "", ""⟩) b
      else am_w (ws.getD 0 0) (.methodLink (am_y m).cls k (am_y a)) && am_w (ws.getD 1 0) (.instanceMethod (am_y a)) && am_w (ws.getD 2 0) (.selects (am_y a).cls (am_y a) (am_y a)) && am_w (ws.getD 3 0) (.initialized (am_y a).cls) && am_w (ws.getD 4 0) (.code (am_y a) (am_b a) (am_mL a) (am_r a)) && am_nm (am_y a).cls && am_np (am_y a) b)
  | .invokespecial k => (am_pc m (i + 1) == pc + 3) && (if v = 2 then am_w (ws.getD 0 0) (.methodLink (am_y m).cls k objectInit) && am_w (ws.getD 1 0) (.instanceMethod objectInit) && am_w (ws.getD 2 0) (.code objectInit ⟨#[0xb1]⟩ 1 none)
      else (if v = 1 then am_w (ws.getD 0 0) (.methodLinkNest (am_y m).cls k (am_y a) "RoundBench") else am_w (ws.getD 0 0) (.methodLink (am_y m).cls k (am_y a))) && am_w (ws.getD 1 0) (.instanceMethod (am_y a)) && am_w (ws.getD 2 0) (.initialized (am_y a).cls) && am_w (ws.getD 3 0) (.code (am_y a) (am_b a) (am_mL a) none) && decide (am_r a = none) && decide ((am_y a).name = "<init>") && am_nm (am_y a).cls && am_np (am_y a) b)
  | .invokestatic k => (am_pc m (i + 1) == pc + 3) && (if v = 2 then am_w (ws.getD 0 0) (.methodLink (am_y m).cls k arraycopyName) && am_w (ws.getD 1 0) (.native arraycopyName) && am_w (ws.getD 2 0) (.static arraycopyName) && am_w (ws.getD 3 0) (.initialized "java/lang/System")
      else am_w (ws.getD 0 0) (.methodLink (am_y m).cls k (am_y a)) && am_w (ws.getD 1 0) (.static (am_y a)) && am_w (ws.getD 2 0) (.initialized (am_y a).cls) && am_w (ws.getD 3 0) (.code (am_y a) (am_b a) (am_mL a) (am_r a)) && am_nm (am_y a).cls && am_np (am_y a) b)
  | .new k => (am_pc m (i + 1) == pc + 3) && decide (a < am_cl.length) && am_w (ws.getD 0 0) (.classLink (am_y m).cls k (am_kd a).1) && am_w (ws.getD 1 0) (.instantiable (am_kd a).1 (am_kd a).2.2) && am_w (ws.getD 2 0) (.initialized (am_kd a).1)
  | .newarray ty => (am_pc m (i + 1) == pc + 2) && decide (am_tys[a]? = some (newarray.typeOf ty)) && am_w (ws.getD 0 0) (.arrayClass (newarray.typeOf ty))
  | .anewarray k => (am_pc m (i + 1) == pc + 3) && (a == 3) && am_w (ws.getD 0 0) (.classLink (am_y m).cls k "RoundBench$Algorithm") && am_w (ws.getD 1 0) (.arrayOver (.object "RoundBench$Algorithm"))
  | .multianewarray k n => (am_pc m (i + 1) == pc + 4) && (n == 2) && (a == 2) && am_w (ws.getD 0 0) (.classLink (am_y m).cls k "[[I") && am_w (ws.getD 1 0) (.arrayOver (.array .int)) && am_w (ws.getD 2 0) (.arrayClass .int)
  | _ => false
/-- the lengths of the instructions that are used -/
def am_ln (pc : Nat) : Instr → Nat
  | .bipush _ | .ldc _ | .iload _ | .aload _ | .istore _ | .astore _ | .newarray _ => 2
  | .sipush _ | .iinc .. | .ifCond .. | .if_icmp .. | .ifnull _ | .ifnonnull _ | .goto _ | .getfield _ | .putfield _ | .invokevirtual _ | .invokespecial _ | .invokestatic _ | .new _ | .anewarray _ => 3
  | .multianewarray .. => 4
  | .tableswitch _ _ _ offs => 1 + (3 - pc % 4) + 12 + 4 * offs.size
  | _ => 1
def am_ck (m i : Nat) (o : am_O) : Bool := decide (decode (am_b m) o.2.1 = .ok (o.1, am_ln o.2.1 o.1)) && am_cx m i o.1 o.2.1 o.2.2.1 o.2.2.2.1 o.2.2.2.2.1 o.2.2.2.2.2
def am_ckl (m : Nat) : Nat → List am_O → Bool
  | _, [] => true
  | i, o :: l => am_ck m i o && am_ckl m (i + 1) l
def am_ckm (m : Nat) : Bool := am_ckl m 0 (am_codes.getD m [])
theorem am_ckl_at {m : Nat} : ∀ (l : List am_O) (k i : Nat) (o : am_O), am_ckl m k l = true → l[i]? = some o → am_ck m (k + i) o = true
  | [], k, i, o, _, h => by simp at h
  | a :: l, k, 0, o, h, e => by
    simp only [am_ckl, Bool.and_eq_true] at h
    simp at e
    rw [← e]
    exact h.1
  | a :: l, k, i + 1, o, h, e => by
    simp only [am_ckl, Bool.and_eq_true] at h
    rw [List.getElem?_cons_succ] at e
    have := am_ckl_at l (k + 1) i o h.2 e
    rwa [show k + 1 + i = k + (i + 1) by omega] at this
