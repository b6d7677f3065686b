/-! an algorithm into the array of them; new int[n][k] -/
theorem am_ao3 : Cond.arrayOver (.object "RoundBench$Algorithm") ∈ lw_tbl := by decide +kernel
theorem am_cas : ∀ ci : Nat, 3 ≤ ci → ci < 11 → Cond.castable (am_kd ci).1 "RoundBench$Algorithm" ∈ lw_tbl
  | 3, _, _ => by decide +kernel
  | 4, _, _ => by decide +kernel
  | 5, _, _ => by decide +kernel
  | 6, _, _ => by decide +kernel
  | 7, _, _ => by decide +kernel
  | 8, _, _ => by decide +kernel
  | 9, _, _ => by decide +kernel
  | 10, _, _ => by decide +kernel
section AMF
variable {g : am_G} {d nc ns m i : Nat} {L : am_L} {st : List Value} {M : am_M} {K : am_K} {pc a b : Nat} {v : Int32} {ws : List Nat}
set_option maxHeartbeats 1000000 in
theorem am_aast {o q n k8 ci : Nat} {f : Nat → Option Nat} {fs : List Value} {x : Int32} (h : am_op m i = some (.aastore, pc, a, b, v, ws)) (ho : M[o]? = some (.inl (3, n, .inr f))) (hq : M[q]? = some (.inr (ci, fs))) (hc3 : 3 ≤ ci) (hc11 : ci < 11) (hx8 : x = nI k8) (hk : k8 < n) (hn8 : n < 2 ^ 31)
    (k : AW g d nc ns m (i + 1) L st (M.set o (.inl (3, n, .inr (va_up f k8 (some q))))) K) : AW g d nc ns m i L (.ref q :: .int x :: .ref o :: st) M K := by
  obtain ⟨hd, hx⟩ := am_dec h
  have hn : am_pc m (i + 1) = am_pc m i + 1 := by simpa [am_cx] using hx
  subst hx8
  intro p e R s mid args below meth c H locs cells slots Q ls C h1 h2 h3 h4 hH hS hL hQ
  obtain ⟨hx0, hb0, -, hml, hown, -, -, hts, hSy, -⟩ := id C
  have hcell : _ = some (vp_cell _ _) := hH.2.1 o _ ho
  obtain ⟨r', hr', cellV, g1, g2, g3, -⟩ := hH.2.1 q _ hq
  have hc12 : ci < am_cl.length := by show ci < 12; omega
  have hcls := (hSy.1.1 ci _ (am_kd_at hc12)).2
  obtain ⟨comp, cA, kA, f1, f2, f3, f4, f5⟩ := Cond.arrayOver_spec (hts _ am_ao3)
  have hcA : am_ac g 3 = cA := Option.some.inj ((hSy.2 3 _ rfl).2.symm.trans f5)
  obtain ⟨kE, hkE, -⟩ := Vm.findClass_spec f1
  obtain ⟨c0, t1, y1, y2, y3⟩ := Cond.castable_spec (hts _ (am_cas ci hc3 hc11))
  have e0 : c0 = (am_D g).1 ci := Option.some.inj (y1.symm.trans hcls.1)
  have e1 : t1 = comp := Option.some.inj (y2.symm.trans f1)
  subst e0
  subst e1
  obtain ⟨kC, hkC, -⟩ := hcls.2
  have hin := vp_in_nI hk hn8
  refine W.aast (t := .object "RoundBench$Algorithm") (cv := cellV) hx0 hb0 hcell (fun q h => by cases h) (fun h => by cases h) (k := kA) (comp := t1) (by show s.vm.classes[am_ac g 3]? = _; rw [hcA]; exact f3) f4 rfl hkE ⟨fun z => hin (Or.inl z), by show _ < (arrV _ _ _).slots.size; rw [arrV_size]; exact Nat.not_le.mp fun z => hin (Or.inr z)⟩ g1 (fun q h => by rw [g3] at h; cases h) (kv := kC) (by rw [g2]; exact hkC) (by rw [g2]; exact y3) rfl rfl hd (fun H' z1 z2 z3 => ?_)
  have hp : W p g.1 e R s mid args below meth c H' (locs ++ [⟨am_base g + o, (nI k8).toNatClampNeg⟩]) cells slots Q (F0 mid (am_pc m (i + 1)) ls (st.map (am_v g))) := by
    refine k p e R s mid args below meth c H' _ cells slots Q ls C h1 h2 h3 h4 (hH.put ho ?_ z2 z3) (hS.put z2 z3 (Nat.le_add_right _ _)) hL hQ
    show H'[am_base g + o]? = some (vp_cell _ _)
    rw [z1]
    refine congrArg some ?_
    show (arrV _ _ _).setSlot _ _ = arrV _ _ (fun j => va_rf ((va_up f k8 (some q) j).map (fun i => am_base g + i)))
    rw [arrV_store, nI_clamp (by omega)]
    refine congrArg (arrV _ _) (funext fun j => ?_)
    by_cases hj : j = k8
    · simp [updV, va_up, hj, va_rf]
    · simp [updV, va_up, hj]
  rw [hn] at hp
  exact hp
end AMF
/-- the heap while new int[n][k] is being made: i rows are there -/
def am_gr (T : State) (cA cI : ClassId) (N k : Nat) : Nat → State
  | 0 => T.pushCell (arrV cA N (fun _ => .null))
  | i + 1 => ((am_gr T cA cI N k i).pushCell (arrV cI k (fun _ => .int 0))).setCell T.heap.size ((arrV cA N (fun j => if j < i then .ref (T.heap.size + 1 + j) else .null)).setSlot i (.ref (T.heap.size + 1 + i)))
theorem am_gro (cA : ClassId) (N h0 i : Nat) : (arrV cA N (fun j => if j < i then .ref (h0 + 1 + j) else .null)).setSlot i (.ref (h0 + 1 + i)) = arrV cA N (fun j => if j < i + 1 then .ref (h0 + 1 + j) else .null) := by
  rw [arrV_store]
  refine congrArg (arrV cA N) (funext fun j => ?_)
  by_cases e : j = i
  · subst e
    simp [updV]
  · by_cases h : j < i
    · simp [updV, e, h, show j < i + 1 by omega]
    · simp [updV, e, h, show ¬ j < i + 1 by omega]
theorem am_grf (T : State) (cA cI : ClassId) (N k : Nat) : ∀ i : Nat, (am_gr T cA cI N k i).heap.size = T.heap.size + 1 + i ∧ (am_gr T cA cI N k i).heap[T.heap.size]? = some (arrV cA N (fun j => if j < i then .ref (T.heap.size + 1 + j) else .null)) ∧ (am_gr T cA cI N k i).vm = T.vm ∧ (am_gr T cA cI N k i).slotsUsed = T.slotsUsed + N + i * k ∧
    (∀ x : Nat, x < T.heap.size → (am_gr T cA cI N k i).heap[x]? = T.heap[x]?) ∧ (∀ j : Nat, j < i → (am_gr T cA cI N k i).heap[T.heap.size + 1 + j]? = some (arrV cI k (fun _ => .int 0)))
  | 0 => by
    refine ⟨by simp [am_gr], ?_, rfl, by simp [am_gr, arrV_size], fun x hx => State.heap_pushCell_of_lt _ _ hx, fun j hj => absurd hj (Nat.not_lt_zero _)⟩
    show (T.pushCell _).heap[T.heap.size]? = _
    rw [State.heap_pushCell_size]
    simp
  | i + 1 => by
    obtain ⟨f1, f2, f3, f4, f5, f6⟩ := am_grf T cA cI N k i
    have hlt : T.heap.size < (am_gr T cA cI N k i).heap.size := by omega
    have hb : ((am_gr T cA cI N k i).pushCell (arrV cI k (fun _ => .int 0))).heap[T.heap.size]? = some (arrV cA N (fun j => if j < i then .ref (T.heap.size + 1 + j) else .null)) := by rw [State.heap_pushCell_of_lt (h := hlt)]; exact f2
    refine ⟨?_, ?_, by simp [am_gr, f3], ?_, fun x hx => ?_, fun j hj => ?_⟩
    · simp [am_gr, State.setCell, f1]; omega
    · rw [← am_gro]
      exact State.heap_setCell_self hb
    · simp [am_gr, f4, arrV_size, Nat.succ_mul, Cell.setSlot]
      have := arrV_size cA N (fun j => if j < i then Value.ref (T.heap.size + 1 + j) else .null)
      first | omega | (rw [State.slotsUsed_setCell_same hb (by simp [Cell.setSlot])]; simp [f4, arrV_size]; omega)
    · show (State.setCell _ _ _).heap[x]? = _
      have hx2 : x < (am_gr T cA cI N k i).heap.size := by omega
      rw [State.heap_setCell_other (Nat.ne_of_gt hx), State.heap_pushCell_of_lt (h := hx2)]
      exact f5 x hx
    · show (State.setCell _ _ _).heap[_]? = _
      rw [State.heap_setCell_other (show T.heap.size ≠ T.heap.size + 1 + j by omega)]
      rcases Nat.lt_or_ge j i with hj2 | hj2
      · have hx2 : T.heap.size + 1 + j < (am_gr T cA cI N k i).heap.size := by omega
        rw [State.heap_pushCell_of_lt (h := hx2)]
        exact f6 j hj2
      · have e : j = i := by omega
        subst e
        rw [← f1]
        exact State.heap_pushCell_size _ _
theorem am_grt (T : State) (fr : JFrame) (cA cI : ClassId) (N k : Nat) : ∀ i : Nat, am_gr (T.setTop fr) cA cI N k i = (am_gr T cA cI N k i).setTop fr
  | 0 => rfl
  | i + 1 => by simp only [am_gr, am_grt T fr cA cI N k i, State.heap_setTop, State.pushCell_setTop, State.setCell_setTop]
section AMW
variable {E : CtlPost} {e : Env} {d : Bool} {acts : List Action} {s : State}
theorem am_wpna {c comp : ClassId} {k : Class} {type : FieldType} {len : Nat} {z : Value} (hk : s.vm.classes[c]? = some k) (hkind : k.kind = .array comp type)
    (hlimit : ¬ len > e.platform.arrayLengthLimit) (hheap : ¬ len * componentBytes type > e.platform.maxHeapBytes) (hfit : fits type z = true) (hdef : z.isDefault = true) {Q : Addr → Pre}
    (h1 : s.heap.size < e.platform.maxCells) (h2 : s.slotsUsed + len ≤ e.platform.maxSlots) (hq : Q s.heap.size d acts (s.pushCell (arrV c len (fun _ => z)))) :
    wp (Jvm.newArray c len z) Q E e d acts s := by
  rw [← arrV_new] at hq
  have hfits : ∀ i v, (Array.replicate len z)[i]? = some v → s.fitsSlot c .none i v = true := by
    intro i v hv
    rw [Array.getElem?_replicate] at hv
    split at hv
    · cases hv
      simp [State.fitsSlot, State.slotType?, hk, hkind, hfit]
    · cases hv
  have hda : allocActs (Array.replicate len z) s.heap.size acts = acts := by
    have hall : ((Array.replicate len z).all (·.isDefault)) = true := by
      rw [Array.all_replicate]
      split <;> simp [hdef]
    unfold allocActs
    rw [if_pos hall]
  simp only [Jvm.newArray, Jvm.arrayFits, wp_bind', W.ask, W.ite, hlimit, if_false, wp_pure', W.theClass, hk, hkind, hheap, W.alloc, W.stop, Option.some.injEq, exists_eq_left', Array.size_replicate, hda]
  rw [if_neg (by omega)]
  exact ⟨h1, h2, hfits, hq⟩
end AMW
