/-! THE ABSTRACT MACHINE: cells by number; AW says of a method's frame, at its i-th instruction, that the machine ends there as K says. -/
/-- a cell: an array (its kind's place in am_tys, length, ints or numbers of cells), or an object (its kind's place in am_cl, fields) -/
abbrev am_C : Type := (Nat × Nat × ((Nat → Int32) ⊕ (Nat → Option Nat))) ⊕ (Nat × List Value)
abbrev am_M : Type := List am_C
abbrev am_L : Type := List (Option Value)
abbrev am_K : Type := Option Value → am_M → Prop
/-- launch; numbers of kinds and slots; numbers of the arrays' kinds; the first address; the script's address, length, ints -/
abbrev am_G : Type := Launch × va_G × (Nat → ClassId) × Nat × Nat × Nat × (Nat → Int32)
def am_D (g : am_G) : va_G := g.2.1
def am_ac (g : am_G) : Nat → ClassId := g.2.2.1
def am_base (g : am_G) : Nat := g.2.2.2.1
def am_scr (g : am_G) : Nat := g.2.2.2.2.1
def am_sl (g : am_G) : Nat := g.2.2.2.2.2.1
def am_sx (g : am_G) : Nat → Int32 := g.2.2.2.2.2.2
/-- a value with a number of a cell, as the machine has it; retAddr stands for the script -/
def am_v (g : am_G) : Value → Value
  | .ref i => .ref (am_base g + i)
  | .retAddr _ => .ref (am_scr g)
  | v => v
def am_e (g : am_G) : am_C → va_E
  | .inl (t, n, .inl f) => .inl (am_ac g t, n, .inl f)
  | .inl (t, n, .inr f) => .inl (am_ac g t, n, .inr (.inr (.inr (.inr fun j => (f j).map (fun i => am_base g + i)))))
  | .inr (ci, fs) => .inr (ci, fs.map (am_v g))
def am_A (g : am_G) : Nat → Prop := fun q => am_base g ≤ q
/-- the heap holds the cells M from the first address on, nothing else there, and the script -/
def am_H (g : am_G) (U : State) (M : am_M) (H : Heap) : Prop :=
  H.size = am_base g + M.length ∧ (∀ (i : Nat) (c : am_C), M[i]? = some c → va_at (am_D g) am_cl (am_base g + i, am_e g c) H) ∧ va_X (am_scr g) (am_sl g) (am_sx g) U H ∧ am_scr g < am_base g
def am_Sy (g : am_G) (U : State) : Prop := va_K (am_D g) am_cl [] U ∧ ∀ (t : Nat) (ty : FieldType), am_tys[t]? = some ty → ArrOfT U (am_ac g t) ty ∧ U.vm.findClass ("[" ++ ty.toString) = some (am_ac g t)
def am_Cx (g : am_G) (p : Program) (s : State) (mid : MethodId) (args : Array Value) (meth : Method) (c : Code) (m : Nat) : Prop :=
  p.tables.exec = Jvm.exec ∧ c.code = am_b m ∧ meth.sig.returnType = am_r m ∧ c.maxLocals = am_mL m ∧ s.vm.findClass (am_y m).cls = some mid.cls ∧ ((am_y m).name = "<init>" → meth.name = "<init>") ∧ meth.locks = false ∧ (∀ w ∈ lw_tbl, w.before args s = true) ∧ am_Sy g s ∧ am_base g ≤ s.heap.size
def am_Lr (g : am_G) (ls : Array Slot) (n : Nat) (L : am_L) : Prop := ls.size = n ∧ lv_wf ls ∧ L.length = n ∧ ∀ (i : Nat) (v : Value), L[i]? = some (some v) → v.category = 1 ∧ ls[i]? = some (.val (am_v g v))
/-- the j-th instruction ends the method with r -/
def am_rt (m j : Nat) : Option Value → Prop
  | none => decode (am_b m) (am_pc m j) = .ok (.return_, 1) ∧ am_r m = none
  | some (.int x) => decode (am_b m) (am_pc m j) = .ok (.ireturn, 1) ∧ (am_r m = some .int ∨ am_r m = some .boolean ∧ (x = 0 ∨ x = 1))
  | _ => False
def am_rs (g : am_G) (r : Option Value) : List Value := (r.map (am_v g)).toList
def AW (g : am_G) (d nc ns m i : Nat) (L : am_L) (st : List Value) (M : am_M) (K : am_K) : Prop :=
  ∀ (p : Program) (e : Env) (R : Room) (s : State) (mid : MethodId) (args : Array Value) (below : List Frame) (meth : Method) (c : Code) (H : Heap) (locs : List Loc) (cells slots : Nat) (Q : State → Prop) (ls : Array Slot),
    am_Cx g p s mid args meth c m → d ≤ R.frames → 40 * d ≤ R.locals → cells + nc ≤ R.cells → slots + ns ≤ R.slots → am_H g s M H → va_S (am_A g) s.heap H locs → am_Lr g ls (am_mL m) L →
    (∀ (r : Option Value) (M' : am_M) (H' : Heap) (locs' : List Loc) (cells' slots' j : Nat) (ls' : Array Slot), K r M' → am_H g s M' H' → va_S (am_A g) s.heap H' locs' → cells' ≤ R.cells → slots' ≤ R.slots → am_rt m j r → W p g.1 e R s mid args below meth c H' locs' cells' slots' Q (F0 mid (am_pc m j) ls' (am_rs g r))) →
    W p g.1 e R s mid args below meth c H locs cells slots Q (F0 mid (am_pc m i) ls (st.map (am_v g)))
theorem am_dec {m i : Nat} {ins : Instr} {pc a b : Nat} {v : Int32} {ws : List Nat} (h : am_op m i = some (ins, pc, a, b, v, ws)) : decode (am_b m) (am_pc m i) = .ok (ins, am_ln (am_pc m i) ins) ∧ am_cx m i ins (am_pc m i) a b v ws = true := by
  have hp : am_pc m i = pc := by unfold am_pc; rw [h]
  have hc := am_cko h
  unfold am_ck at hc
  rw [Bool.and_eq_true, decide_eq_true_eq] at hc
  rw [hp]
  exact hc
theorem am_word {k : Nat} {w : Cond} {args : Array Value} {s : State} (hts : ∀ w ∈ lw_tbl, w.before args s = true) (h : am_w k w = true) : w.before args s = true := hts w (List.mem_of_getElem? (of_decide_eq_true h))
theorem am_wmem {k : Nat} {w : Cond} (h : am_w k w = true) : w ∈ lw_tbl := List.mem_of_getElem? (of_decide_eq_true h)
theorem am_kd_at {a : Nat} (h : a < am_cl.length) : am_cl[a]? = some ((am_kd a).1, (am_kd a).2.1, (am_kd a).2.2) := by
  unfold am_kd
  rw [List.getD_eq_getElem?_getD, List.getElem?_eq_getElem h]
  rfl
theorem am_cat {g : am_G} {v : Value} (h : v.category = 1) : (am_v g v).category = 1 := by
  cases v <;> first | rfl | exact h
section AMR
variable {g : am_G} {d nc ns m i : Nat} {L : am_L} {st : List Value} {M : am_M} {K : am_K} {pc a b : Nat} {v : Int32} {ws : List Nat}
theorem am_lift {j : Nat} {st' : List Value} (hW : ∀ {p : Program} {e : Env} {R : Room} {s : State} {mid : MethodId} {args : Array Value} {below : List Frame} {meth : Method} {c : Code} {H : Heap} {locs : List Loc} {cells slots : Nat} {Q : State → Prop} {ls : Array Slot}, am_Cx g p s mid args meth c m → am_Lr g ls (am_mL m) L → am_H g s M H → va_S (am_A g) s.heap H locs →
    W p g.1 e R s mid args below meth c H locs cells slots Q (F0 mid (am_pc m j) ls (st'.map (am_v g))) → W p g.1 e R s mid args below meth c H locs cells slots Q (F0 mid (am_pc m i) ls (st.map (am_v g)))) (k : AW g d nc ns m j L st' M K) : AW g d nc ns m i L st M K :=
  fun p e R s mid args below meth c H locs cells slots Q ls C h1 h2 h3 h4 hH hS hL hQ => hW C hL hH hS (k p e R s mid args below meth c H locs cells slots Q ls C h1 h2 h3 h4 hH hS hL hQ)
theorem am_eqp {j : Nat} {L' : am_L} {st' : List Value} {M' : am_M} (h1 : L = L') (h2 : st = st') (h3 : M = M') (k : AW g d nc ns m i L' st' M' K) : AW g d nc ns m i L st M K := by subst h1; subst h2; subst h3; exact k
theorem am_mono {d' nc' ns' : Nat} {K' : am_K} (hd : d ≤ d') (hn : nc ≤ nc') (hs : ns ≤ ns') (hK : ∀ r M, K r M → K' r M) (k : AW g d nc ns m i L st M K) : AW g d' nc' ns' m i L st M K' :=
  fun p e R s mid args below meth c H locs cells slots Q ls C h1 h2 h3 h4 hH hS hL hQ => k p e R s mid args below meth c H locs cells slots Q ls C (Nat.le_trans hd h1) (Nat.le_trans (Nat.mul_le_mul_left 40 hd) h2) (by omega) (by omega) hH hS hL (fun r M' H' locs' cells' slots' j ls' hk => hQ r M' H' locs' cells' slots' j ls' (hK r M' hk))
-- constants
theorem am_null (h : am_op m i = some (.aconst_null, pc, a, b, v, ws)) (k : AW g d nc ns m (i + 1) L (.null :: st) M K) : AW g d nc ns m i L st M K := by
  obtain ⟨hd, hx⟩ := am_dec h
  have hn : am_pc m (i + 1) = am_pc m i + 1 := by simpa [am_cx] using hx
  refine am_lift (fun C _ _ _ w => ?_) k
  rw [hn] at w
  exact lv_null C.1 C.2.1 hd w
theorem am_iconst {n : Int} (h : am_op m i = some (.iconst n, pc, a, b, v, ws)) (k : AW g d nc ns m (i + 1) L (.int v :: st) M K) : AW g d nc ns m i L st M K := by
  obtain ⟨hd, hx⟩ := am_dec h
  simp only [am_cx, Bool.and_eq_true, beq_iff_eq, decide_eq_true_eq] at hx
  refine am_lift (fun C _ _ _ w => ?_) k
  rw [hx.1] at w
  exact lv_iconst C.1 C.2.1 hd hx.2 w
theorem am_bipush {n : Int} (h : am_op m i = some (.bipush n, pc, a, b, v, ws)) (k : AW g d nc ns m (i + 1) L (.int v :: st) M K) : AW g d nc ns m i L st M K := by
  obtain ⟨hd, hx⟩ := am_dec h
  simp only [am_cx, Bool.and_eq_true, beq_iff_eq, decide_eq_true_eq] at hx
  refine am_lift (fun C _ _ _ w => ?_) k
  rw [hx.1] at w
  exact lv_bipush C.1 C.2.1 hd hx.2 w
theorem am_sipush {n : Int} (h : am_op m i = some (.sipush n, pc, a, b, v, ws)) (k : AW g d nc ns m (i + 1) L (.int v :: st) M K) : AW g d nc ns m i L st M K := by
  obtain ⟨hd, hx⟩ := am_dec h
  simp only [am_cx, Bool.and_eq_true, beq_iff_eq, decide_eq_true_eq] at hx
  refine am_lift (fun C _ _ _ w => ?_) k
  rw [hx.1] at w
  exact lv_sipush C.1 C.2.1 hd hx.2 w
theorem am_ldc {n : Nat} (h : am_op m i = some (.ldc n, pc, a, b, v, ws)) (k : AW g d nc ns m (i + 1) L (.int v :: st) M K) : AW g d nc ns m i L st M K := by
  obtain ⟨hd, hx⟩ := am_dec h
  simp only [am_cx, Bool.and_eq_true, beq_iff_eq] at hx
  refine am_lift (fun C _ _ _ w => ?_) k
  rw [hx.1] at w
  exact lv_ldc C.1 C.2.1 C.2.2.2.2.1 (am_word C.2.2.2.2.2.2.2.1 hx.2) hd w
-- locals
theorem am_iload_n {k9 : Fin 4} {x : Int32} (h : am_op m i = some (.iload_n k9, pc, a, b, v, ws)) (hl : L[a]? = some (some (.int x))) (k : AW g d nc ns m (i + 1) L (.int x :: st) M K) : AW g d nc ns m i L st M K := by
  obtain ⟨hd, hx⟩ := am_dec h
  simp only [am_cx, Bool.and_eq_true, beq_iff_eq] at hx
  refine am_lift (fun C hL _ _ w => ?_) k
  rw [hx.1] at w
  exact lv_iload_n C.1 C.2.1 hd hx.2 (hL.2.2.2 a _ hl).2 w
theorem am_iload {k9 : Nat} {x : Int32} (h : am_op m i = some (.iload k9, pc, a, b, v, ws)) (hl : L[a]? = some (some (.int x))) (k : AW g d nc ns m (i + 1) L (.int x :: st) M K) : AW g d nc ns m i L st M K := by
  obtain ⟨hd, hx⟩ := am_dec h
  simp only [am_cx, Bool.and_eq_true, beq_iff_eq] at hx
  obtain ⟨hn, rfl⟩ := hx
  refine am_lift (fun C hL _ _ w => ?_) k
  rw [hn] at w
  exact lv_iload C.1 C.2.1 hd (hL.2.2.2 _ _ hl).2 w
theorem am_aload_n {k9 : Fin 4} {o : Value} (h : am_op m i = some (.aload_n k9, pc, a, b, v, ws)) (hl : L[a]? = some (some o)) (ho : (match o with | .ref _ | .null | .retAddr _ => true | _ => false) = true) (k : AW g d nc ns m (i + 1) L (o :: st) M K) : AW g d nc ns m i L st M K := by
  obtain ⟨hd, hx⟩ := am_dec h
  simp only [am_cx, Bool.and_eq_true, beq_iff_eq] at hx
  refine am_lift (fun C hL _ _ w => ?_) k
  rw [hx.1] at w
  have hl2 := (hL.2.2.2 a _ hl).2
  cases o with
  | ref z => exact lv_aload_n C.1 C.2.1 hd hx.2 hl2 w
  | retAddr z => exact lv_aload_n C.1 C.2.1 hd hx.2 hl2 w
  | null => exact lv_aload_nN C.1 C.2.1 hd hx.2 hl2 w
  | _ => cases ho
theorem am_aload {k9 : Nat} {o : Value} (h : am_op m i = some (.aload k9, pc, a, b, v, ws)) (hl : L[a]? = some (some o)) (ho : (match o with | .ref _ | .null | .retAddr _ => true | _ => false) = true) (k : AW g d nc ns m (i + 1) L (o :: st) M K) : AW g d nc ns m i L st M K := by
  obtain ⟨hd, hx⟩ := am_dec h
  simp only [am_cx, Bool.and_eq_true, beq_iff_eq] at hx
  obtain ⟨hn, rfl⟩ := hx
  refine am_lift (fun C hL _ _ w => ?_) k
  rw [hn] at w
  have hl2 := (hL.2.2.2 _ _ hl).2
  cases o with
  | ref z => exact lv_aload C.1 C.2.1 hd hl2 w
  | retAddr z => exact lv_aload C.1 C.2.1 hd hl2 w
  | null => exact lv_aloadN C.1 C.2.1 hd hl2 w
  | _ => cases ho
end AMR
/-- the locals that are set, by their places -/
def am_ll (g : am_G) : Nat → am_L → List (Nat × Value)
  | _, [] => []
  | k, none :: L => am_ll g (k + 1) L
  | k, some v :: L => (k, am_v g v) :: am_ll g (k + 1) L
theorem am_ll_of {g : am_G} : ∀ (L : am_L) (k i : Nat) (v : Value), L[i]? = some (some v) → (k + i, am_v g v) ∈ am_ll g k L
  | [], k, i, v, h => by simp at h
  | none :: L, k, 0, v, h => by simp at h
  | some w :: L, k, 0, v, h => by
    simp at h
    subst h
    exact List.mem_cons_self
  | none :: L, k, i + 1, v, h => by
    rw [List.getElem?_cons_succ] at h
    have := am_ll_of (g := g) L (k + 1) i v h
    rw [show k + (i + 1) = k + 1 + i by omega]
    exact this
  | some w :: L, k, i + 1, v, h => by
    rw [List.getElem?_cons_succ] at h
    have := am_ll_of (g := g) L (k + 1) i v h
    rw [show k + (i + 1) = k + 1 + i by omega]
    exact List.mem_cons_of_mem _ this
theorem am_ll_to {g : am_G} : ∀ (L : am_L) (k : Nat) (q : Nat × Value), q ∈ am_ll g k L → ∃ (i : Nat) (v : Value), L[i]? = some (some v) ∧ q = (k + i, am_v g v)
  | [], k, q, h => by cases h
  | none :: L, k, q, h => by
    obtain ⟨i, v, h1, h2⟩ := am_ll_to L (k + 1) q h
    exact ⟨i + 1, v, by rw [List.getElem?_cons_succ]; exact h1, by rw [h2, show k + 1 + i = k + (i + 1) by omega]⟩
  | some w :: L, k, q, h => by
    rcases List.mem_cons.mp h with h | h
    · exact ⟨0, w, rfl, h⟩
    · obtain ⟨i, v, h1, h2⟩ := am_ll_to L (k + 1) q h
      exact ⟨i + 1, v, by rw [List.getElem?_cons_succ]; exact h1, by rw [h2, show k + 1 + i = k + (i + 1) by omega]⟩
theorem am_Lr.has {g : am_G} {ls : Array Slot} {n : Nat} {L : am_L} (h : am_Lr g ls n L) : lv_has ls n (am_ll g 0 L) := by
  refine ⟨h.1, h.2.1, fun q hq => ?_⟩
  obtain ⟨i, v, h1, rfl⟩ := am_ll_to L 0 q hq
  rw [Nat.zero_add]
  exact (h.2.2.2 i v h1).2
theorem am_Lr.store {g : am_G} {ls ls' : Array Slot} {n a : Nat} {L : am_L} {v : Value} (h : am_Lr g ls n L) (hv : v.category = 1) (ha : a < n)
    (h' : lv_has ls' n ((a, am_v g v) :: (am_ll g 0 L).filter (fun q => !(q.1 == a) && !(q.1 + 1 == a && q.2.category == 2)))) : am_Lr g ls' n (L.set a (some v)) := by
  refine ⟨h'.1, h'.2.1, by rw [List.length_set]; exact h.2.2.1, fun i w hw => ?_⟩
  by_cases hi : a = i
  · subst hi
    rw [List.getElem?_set_self (by rw [h.2.2.1]; exact ha)] at hw
    simp at hw
    subst hw
    exact ⟨hv, h'.2.2 _ List.mem_cons_self⟩
  · rw [List.getElem?_set_ne hi] at hw
    have hc := (h.2.2.2 i w hw).1
    refine ⟨hc, h'.2.2 (i, am_v g w) (List.mem_cons_of_mem _ (List.mem_filter.mpr ⟨?_, ?_⟩))⟩
    · have := am_ll_of (g := g) L 0 i w hw
      rwa [Nat.zero_add] at this
    · have hc2 := am_cat (g := g) hc
      have h2 : ¬ i = a := fun q => hi q.symm
      simp [h2, hc2]
section AMS
variable {g : am_G} {d nc ns m i : Nat} {L : am_L} {st : List Value} {M : am_M} {K : am_K} {pc a b : Nat} {v : Int32} {ws : List Nat}
theorem am_istore_n {k9 : Fin 4} {x : Int32} (h : am_op m i = some (.istore_n k9, pc, a, b, v, ws)) (k : AW g d nc ns m (i + 1) (L.set a (some (.int x))) st M K) : AW g d nc ns m i L (.int x :: st) M K := by
  obtain ⟨hd, hx⟩ := am_dec h
  simp only [am_cx, Bool.and_eq_true, beq_iff_eq, decide_eq_true_eq] at hx
  intro p e R s mid args below meth c H locs cells slots Q ls C h1 h2 h3 h4 hH hS hL hQ
  refine lv_istore_n C.1 C.2.1 hd hx.1.2 hL.has hx.2 rfl (fun ls' h' => ?_)
  rw [← hx.1.1]
  exact k p e R s mid args below meth c H locs cells slots Q ls' C h1 h2 h3 h4 hH hS (hL.store (v := .int x) rfl hx.2 h') hQ
theorem am_istore {k9 : Nat} {x : Int32} (h : am_op m i = some (.istore k9, pc, a, b, v, ws)) (k : AW g d nc ns m (i + 1) (L.set a (some (.int x))) st M K) : AW g d nc ns m i L (.int x :: st) M K := by
  obtain ⟨hd, hx⟩ := am_dec h
  simp only [am_cx, Bool.and_eq_true, beq_iff_eq, decide_eq_true_eq] at hx
  obtain ⟨⟨hn, rfl⟩, ha⟩ := hx
  intro p e R s mid args below meth c H locs cells slots Q ls C h1 h2 h3 h4 hH hS hL hQ
  refine lv_istore C.1 C.2.1 hd hL.has ha rfl (fun ls' h' => ?_)
  rw [← hn]
  exact k p e R s mid args below meth c H locs cells slots Q ls' C h1 h2 h3 h4 hH hS (hL.store (v := .int x) rfl ha h') hQ
theorem am_astore_n {k9 : Fin 4} {o : Nat} (h : am_op m i = some (.astore_n k9, pc, a, b, v, ws)) (k : AW g d nc ns m (i + 1) (L.set a (some (.ref o))) st M K) : AW g d nc ns m i L (.ref o :: st) M K := by
  obtain ⟨hd, hx⟩ := am_dec h
  simp only [am_cx, Bool.and_eq_true, beq_iff_eq, decide_eq_true_eq] at hx
  intro p e R s mid args below meth c H locs cells slots Q ls C h1 h2 h3 h4 hH hS hL hQ
  refine lv_astore_n C.1 C.2.1 hd hx.1.2 hL.has hx.2 rfl (fun ls' h' => ?_)
  rw [← hx.1.1]
  exact k p e R s mid args below meth c H locs cells slots Q ls' C h1 h2 h3 h4 hH hS (hL.store (v := .ref o) rfl hx.2 h') hQ
theorem am_iinc {k9 : Nat} {n : Int} {x : Int32} (h : am_op m i = some (.iinc k9 n, pc, a, b, v, ws)) (hl : L[a]? = some (some (.int x))) (k : AW g d nc ns m (i + 1) (L.set a (some (.int (x + v)))) st M K) : AW g d nc ns m i L st M K := by
  obtain ⟨hd, hx⟩ := am_dec h
  simp only [am_cx, Bool.and_eq_true, beq_iff_eq, decide_eq_true_eq] at hx
  obtain ⟨⟨⟨hn, rfl⟩, ha⟩, rfl⟩ := hx
  intro p e R s mid args below meth c H locs cells slots Q ls C h1 h2 h3 h4 hH hS hL hQ
  have hm := am_ll_of (g := g) L 0 _ _ hl
  rw [Nat.zero_add] at hm
  obtain ⟨k8, hk8⟩ := List.getElem?_of_mem hm
  refine lv_iinc C.1 C.2.1 hd hL.has hk8 rfl ha rfl (fun ls' h' => ?_)
  rw [← hn]
  exact k p e R s mid args below meth c H locs cells slots Q ls' C h1 h2 h3 h4 hH hS (hL.store (v := .int _) rfl ha h') hQ
end AMS
