/-! new int[n][k], on: the loop, the machine's step, the row -/
section AMX
variable {E : CtlPost} {e : Env} {d : Bool} {acts : List Action} {s : State}
theorem am_wpm {cA cI cc : ClassId} {k kc : Class} {n w : Int32} (hk : s.vm.classes[cA]? = some k) (hkind : k.kind = .array cI (.array .int)) (hkc : s.vm.classes[cI]? = some kc) (hkindc : kc.kind = .array cc .int) (hn : ¬ n < 0) (hw : ¬ w < 0)
    (hl1 : ¬ n.toNatClampNeg > e.platform.arrayLengthLimit) (hh1 : ¬ n.toNatClampNeg * componentBytes (.array .int) > e.platform.maxHeapBytes) (hl2 : ¬ w.toNatClampNeg > e.platform.arrayLengthLimit) (hh2 : ¬ w.toNatClampNeg * componentBytes .int > e.platform.maxHeapBytes)
    (hc : s.heap.size + 1 + n.toNatClampNeg ≤ e.platform.maxCells) (hs : s.slotsUsed + n.toNatClampNeg + n.toNatClampNeg * w.toNatClampNeg ≤ e.platform.maxSlots)
    {Q : Addr → Pre} (hq : ∀ d' acts', Q s.heap.size d' acts' (am_gr s cA cI n.toNatClampNeg w.toNatClampNeg n.toNatClampNeg)) : wp (multianewarray.make cA [n, w]) Q E e d acts s := by
  generalize hN : n.toNatClampNeg = N at hl1 hh1 hc hs hq
  generalize hK : w.toNatClampNeg = K at hl2 hh2 hs hq
  have hfind : ([w].find? (· < 0)) = none := by simp [hw]
  rw [multianewarray.make]
  simp only [wp_bind', W.ite, hn, if_false, wp_pure', W.theClass, hk, hkind, Option.some.injEq, exists_eq_left', hN]
  refine am_wpna hk hkind hl1 hh1 rfl rfl (by omega) (by have := Nat.zero_le (N * K); omega) ?_
  simp only [hfind]
  rw [ite_self, wp_bind', Std.Legacy.Range.forIn_eq_forIn_range']
  have hsz : ([:N] : Std.Legacy.Range).size = N := by simp [Std.Legacy.Range.size]
  rw [hsz]
  show wp (forIn (List.range' 0 N 1) PUnit.unit _) _ E e d acts _
  refine wp_forIn_inv (fun rest s' => ∃ j, j ≤ N ∧ rest = List.range' j (N - j) ∧ s' = am_gr s cA cI N K j) _ _ ⟨0, Nat.zero_le _, rfl, rfl⟩ ?_ ?_
  · rintro x rest s' d' acts' Q' ⟨j, hj, hl, rfl⟩ hnext
    have hlt : j < N := by
      rcases Nat.lt_or_ge j N with h | h
      · exact h
      · rw [show N - j = 0 by omega] at hl
        simp at hl
    obtain ⟨rfl, hrest⟩ : x = j ∧ rest = List.range' (j + 1) (N - (j + 1)) := by
      rw [show N - j = (N - (j + 1)) + 1 by omega, List.range'_succ] at hl
      exact ⟨(List.cons.inj hl).1, (List.cons.inj hl).2⟩
    obtain ⟨f1, f2, f3, f4, -, -⟩ := am_grf s cA cI N K x
    have hmul : x * K + K ≤ N * K := by
      have := Nat.mul_le_mul_right K (show x + 1 ≤ N from hlt)
      rw [Nat.succ_mul] at this
      exact this
    simp only [wp_bind']
    rw [multianewarray.make]
    simp only [wp_bind', W.ite, hw, if_false, wp_pure', W.theClass, f3, hkc, hkindc, Option.some.injEq, exists_eq_left', hK]
    refine am_wpna (by rw [f3]; exact hkc) hkindc hl2 hh2 rfl rfl (by rw [f1]; omega) (by rw [f4]; omega) ?_
    have hlt0 : s.heap.size < (am_gr s cA cI N K x).heap.size := by rw [f1]; omega
    simp only [wp_bind', W.writeLoc, wp_pure']
    refine ⟨arrV cA N (fun j => if j < x then .ref (s.heap.size + 1 + j) else .null), by rw [State.heap_pushCell_of_lt (h := hlt0)]; exact f2, (by intro h; cases h), by rw [arrV_size]; exact hlt, ?_, hnext _ _ _ ⟨x + 1, hlt, hrest, ?_⟩⟩
    · show State.fitsSlot _ cA .none x _ = true
      simp [State.fitsSlot, State.slotType?, f3, hk, hkind, fits]
    · rw [f1]
      rfl
  · rintro s' d' acts' ⟨j, hj, hl, rfl⟩
    have hjN : j = N := by
      rcases Nat.lt_or_ge j N with h | h
      · rw [show N - j = (N - (j + 1)) + 1 by omega, List.range'_succ] at hl
        cases hl
      · omega
    subst hjN
    simp only [wp_pure']
    exact hq _ _
end AMX
section AMY
variable {p : Program} {l : Launch} {e : Env} {R : Room} {s : State} {m : MethodId} {args : Array Value} {below : List Frame} {meth : Method} {c : Code} {T : State} {locs : List Loc} {cells slots : Nat}
theorem am_grS (X : Stand p l e R s m args below meth c T locs cells slots) (cA cI : ClassId) (N k : Nat) : ∀ i : Nat, Stand p l e R s m args below meth c (am_gr T cA cI N k i) (locs ++ (List.range i).map fun j => ⟨T.heap.size, j⟩) (cells + 1 + i) (slots + N + i * k)
  | 0 => by
    have h := X.pushed (arrV cA N (fun _ => .null))
    rw [arrV_size] at h
    simpa [am_gr] using h
  | i + 1 => by
    have Xi := am_grS X cA cI N k i
    obtain ⟨f1, f2, -⟩ := am_grf T cA cI N k i
    have hlt0 : T.heap.size < (am_gr T cA cI N k i).heap.size := by rw [f1]; omega
    have hcell : ((am_gr T cA cI N k i).pushCell (arrV cI k (fun _ => .int 0))).heap[T.heap.size]? = some (arrV cA N (fun j => if j < i then .ref (T.heap.size + 1 + j) else .null)) := by rw [State.heap_pushCell_of_lt (h := hlt0)]; exact f2
    have h := (Xi.pushed (arrV cI k (fun _ => .int 0))).stored hcell i (.ref (T.heap.size + 1 + i))
    rw [arrV_size] at h
    have e2 : (locs ++ (List.range (i + 1)).map fun j => (⟨T.heap.size, j⟩ : Loc)) = (locs ++ (List.range i).map fun j => (⟨T.heap.size, j⟩ : Loc)) ++ [⟨T.heap.size, i⟩] := by simp [List.range_succ, List.append_assoc]
    have e3 : slots + N + (i + 1) * k = slots + N + i * k + k := by rw [Nat.succ_mul]; omega
    rw [e2, e3]
    exact h
set_option maxHeartbeats 2000000 in
theorem am_mnaS (X : Stand p l e R s m args below meth c T locs cells slots) (hexec : p.tables.exec = Jvm.exec) {own : String} {index : Nat} (hown : s.vm.findClass own = some m.cls) (hclink : (Cond.classLink own index "[[I").before args s = true)
    (hover : (Cond.arrayOver (.array .int)).before args s = true) (harr : (Cond.arrayClass .int).before args s = true)
    {g : JFrame} (hg : g.method = m) (hdg : decode c.code g.pc = .ok (.multianewarray index 2, 4)) {n k : Int32} {rest : List Value} (hstack : g.stack = .int k :: .int n :: rest)
    (hn : ¬ n < 0) (hk : ¬ k < 0) (hb1 : n.toNatClampNeg ≤ 1000) (hb2 : k.toNatClampNeg ≤ 1000)
    (hcells : cells + (1 + n.toNatClampNeg) ≤ R.cells) (hslots : slots + (n.toNatClampNeg + n.toNatClampNeg * k.toNatClampNeg) ≤ R.slots) :
    ∃ (vm₁ : Vm) (cA cI : ClassId), s.WarmedH vm₁ ∧ s.vm.findClass "[[I" = some cA ∧ s.vm.findClass "[I" = some cI ∧
      Stand p l e R s m args below meth c (am_gr (T.setVm vm₁) cA cI n.toNatClampNeg k.toNatClampNeg n.toNatClampNeg) (locs ++ (List.range n.toNatClampNeg).map fun j => ⟨T.heap.size, j⟩) (cells + 1 + n.toNatClampNeg) (slots + n.toNatClampNeg + n.toNatClampNeg * k.toNatClampNeg) ∧
      ∀ target, Steps p.tables e below ((am_gr (T.setVm vm₁) cA cI n.toNatClampNeg k.toNatClampNeg n.toNatClampNeg).setTop { g with pc := g.pc + 4, stack := .ref T.heap.size :: rest }) target → Steps p.tables e below (T.setTop g) target := by
  subst hg
  have hpl : e.platform.magicAccessors = ({} : Platform).magicAccessors := by rw [X.admits.platform]
  obtain ⟨cI, cA, kA, hcI, -, hkA, hkindA, hnameA⟩ := am_AOs hover
  obtain ⟨cI', kC, cc, hcI', hkC, hkindC⟩ := Cond.arrayClass_spec harr
  have e0 : (FieldType.array .int).toString = "[I" := by decide +kernel
  have e1 : ("[" ++ FieldType.int.toString : String) = "[I" := by decide +kernel
  have e2 : ("[" ++ (FieldType.array .int).toString : String) = "[[I" := by decide +kernel
  rw [e0] at hcI
  rw [e1] at hcI'
  rw [e2] at hnameA
  have ecomp : cI' = cI := Option.some.inj (hcI'.symm.trans hcI)
  subst ecomp
  obtain ⟨c0, hfc0, hcl⟩ := Cond.classLink_spec hown hclink e.platform hpl
  cases hnameA.symm.trans hfc0
  obtain ⟨hg₁, hwarm₁, hready₁⟩ := State.classEntry (e := e) X.warmed hcl
  generalize T.vm.noted g.method.cls index (.cls cA) = vm₁ at hg₁ hwarm₁ hready₁
  have hal : s.vm.Alike vm₁ := hwarm₁.alike
  obtain ⟨kA₁, hkA₁, heA⟩ := hal.2.2 _ _ hkA
  obtain ⟨kC₁, hkC₁, heC⟩ := hal.2.2 _ _ hkC
  have hkindA₁ : kA₁.kind = .array cI' (.array .int) := by rw [heA]; exact hkindA
  have hkindC₁ : kC₁.kind = .array cc .int := by rw [heC]; exact hkindC
  have X₁ := X.noted hwarm₁
  obtain ⟨hr1, hr2⟩ := X.roomAbove hcells hslots
  refine ⟨vm₁, cA, cI', hwarm₁, hnameA, hcI, am_grS X₁ cA cI' _ _ _, fun target hrest => ?_⟩
  have hl1 : ¬ n.toNatClampNeg > e.platform.arrayLengthLimit := by rw [Launch.admits_arrayLengthLimit X.admits]; omega
  have hh1 : ¬ n.toNatClampNeg * componentBytes (.array .int) > e.platform.maxHeapBytes := by
    rw [Launch.admits_maxHeapBytes X.admits]
    show ¬ n.toNatClampNeg * 4 > 536870912
    omega
  have hl2 : ¬ k.toNatClampNeg > e.platform.arrayLengthLimit := by rw [Launch.admits_arrayLengthLimit X.admits]; omega
  have hh2 : ¬ k.toNatClampNeg * componentBytes .int > e.platform.maxHeapBytes := by
    rw [Launch.admits_maxHeapBytes X.admits]
    show ¬ k.toNatClampNeg * 4 > 536870912
    omega
  jvm_step X.here [hexec, hdg]
  simp only [multianewarray.sem, wp_bind', W.resolveClassAt_links (State.method?_setTop g X.here.top) hg₁]
  rw [W.popN, if_neg (by decide)]
  refine ⟨g, State.topJava?_setTop' (s := T.setVm vm₁) g X.here.top, [.int n, .int k], rest, rfl, hstack, ?_⟩
  simp only [List.mapM_cons, List.mapM_nil, wp_bind', wp_pure']
  refine am_wpm (k := kA₁) (kc := kC₁) (cI := cI') (cc := cc) hkA₁ hkindA₁ hkC₁ hkindC₁ hn hk hl1 hh1 hl2 hh2 (by show T.heap.size + 1 + _ ≤ _; omega) (by show T.slotsUsed + _ + _ ≤ _; omega) (fun d' acts' => ?_)
  have XF := am_grS X₁ cA cI' n.toNatClampNeg k.toNatClampNeg n.toNatClampNeg
  have eS : ((T.setTop g).setVm vm₁).setTop { g with stack := rest } = (T.setVm vm₁).setTop { g with stack := rest } := by
    show ((T.setVm vm₁).setTop g).setTop _ = _
    rw [State.setTop_setTop]
  rw [eS, am_grt]
  simp only [wp_bind', W.mark, W.pushRef, State.topJava?_setTop' _ XF.here.top, Option.some.injEq, exists_eq_left', State.setTop_setTop, State.heap_setTop]
  intro acts
  simp [jvm, XF.here.top]
  exact hrest
end AMY
section AMZ
variable {g : am_G} {d nc ns m i : Nat} {L : am_L} {st : List Value} {M : am_M} {K : am_K} {pc a b : Nat} {v : Int32} {ws : List Nat}
theorem am_H.push2 {U : State} {H H1 : Heap} {N k : Nat} (hH : am_H g U M H) (z : H1.size = H.size + 1 + N) (h0 : H1[H.size]? = some (arrV (am_ac g 2) N (fun j => if j < N then .ref (H.size + 1 + j) else .null))) (hold : ∀ x : Nat, x < H.size → H1[x]? = H[x]?) (hrow : ∀ j : Nat, j < N → H1[H.size + 1 + j]? = some (arrV (am_ac g 0) k (fun _ => .int 0))) :
    am_H g U (M ++ .inl (2, N, .inr fun j => if j < N then some (M.length + 1 + j) else none) :: List.replicate N (.inl (0, k, .inl fun _ => 0))) H1 := by
  obtain ⟨h1, h2, h3, h4⟩ := hH
  refine ⟨by rw [z, h1, List.length_append, List.length_cons, List.length_replicate]; omega, fun i c' hi => ?_, h3.kept (hold _ (by omega)), h4⟩
  by_cases e : i < M.length
  · rw [List.getElem?_append_left e] at hi
    exact (h2 i c' hi).kept (hold _ (by show am_base g + i < H.size; omega))
  · rw [List.getElem?_append_right (by omega)] at hi
    by_cases e2 : i = M.length
    · subst e2
      rw [Nat.sub_self] at hi
      cases hi
      show H1[am_base g + M.length]? = some (vp_cell _ _)
      rw [← h1, h0]
      refine congrArg some ?_
      show _ = arrV _ _ (fun j => va_rf ((if j < N then some (M.length + 1 + j) else none).map (fun i => am_base g + i)))
      refine congrArg (arrV _ _) (funext fun j => ?_)
      by_cases hj : j < N
      · rw [if_pos hj, if_pos hj]
        show Value.ref (H.size + 1 + j) = Value.ref (am_base g + (M.length + 1 + j))
        rw [show H.size + 1 + j = am_base g + (M.length + 1 + j) by omega]
      · rw [if_neg hj, if_neg hj]
        rfl
    · rw [show i - M.length = (i - M.length - 1) + 1 by omega, List.getElem?_cons_succ] at hi
      have hl : i - M.length - 1 < N := by
        have := (List.getElem?_eq_some_iff.mp hi).1
        rwa [List.length_replicate] at this
      rw [List.getElem?_replicate, if_pos hl] at hi
      cases hi
      show H1[am_base g + i]? = some (vp_cell _ _)
      rw [show am_base g + i = H.size + 1 + (i - M.length - 1) by omega, hrow _ hl]
      rfl
theorem am_mna {k9 N k8 : Nat} {x y : Int32} (h : am_op m i = some (.multianewarray k9 2, pc, a, b, v, ws)) (hx9 : x = nI N) (hy9 : y = nI k8) (hN : N ≤ 1000) (hk8 : k8 ≤ 1000)
    (k : AW g d nc ns m (i + 1) L (.ref M.length :: st) (M ++ .inl (2, N, .inr fun j => if j < N then some (M.length + 1 + j) else none) :: List.replicate N (.inl (0, k8, .inl fun _ => 0))) K) : AW g d (nc + (1 + N)) (ns + (N + N * k8)) m i L (.int y :: .int x :: st) M K := by
  obtain ⟨hd, hx⟩ := am_dec h
  simp only [am_cx, Bool.and_eq_true, beq_iff_eq] at hx
  obtain ⟨⟨⟨⟨⟨hn3, -⟩, ha⟩, w0⟩, w1⟩, w2⟩ := hx
  subst hx9
  subst hy9
  intro p e R s mid args below meth c H locs cells slots Q ls C h1 h2 h3 h4 hH hS hL hQ
  obtain ⟨hx0, hb0, -, hml, hown, -, -, hts, hSy, -⟩ := id C
  have c1 : (nI N).toNatClampNeg = N := nI_clamp (by omega)
  have c2 : (nI k8).toNatClampNeg = k8 := nI_clamp (by omega)
  intro T hT X
  obtain ⟨vm₁, cA, cI, hW, fA, fI, X', step⟩ := am_mnaS X hx0 hown (am_word hts w0) (am_word hts w1) (am_word hts w2) (g := F0 mid (am_pc m i) ls (.int (nI k8) :: .int (nI N) :: st.map (am_v g))) rfl (by rw [hb0]; exact hd) rfl (nI_pos (by omega)) (nI_pos (by omega)) (by omega) (by omega) (by rw [c1]; omega) (by rw [c1, c2]; omega)
  rw [c1, c2] at X' step
  have hcA : cA = am_ac g 2 := Option.some.inj (fA.symm.trans (hSy.2 2 _ rfl).2)
  have hcI : cI = am_ac g 0 := Option.some.inj (fI.symm.trans (hSy.2 0 _ rfl).2)
  subst hcA
  subst hcI
  obtain ⟨f1, f2, f3, f4, f5, f6⟩ := am_grf (T.setVm vm₁) (am_ac g 2) (am_ac g 0) N k8 N
  have hTh : (T.setVm vm₁).heap = H := hT
  rw [hTh] at f1 f2 f5 f6
  have hH1 := hH.push2 f1 f2 f5 f6
  have hsz : T.heap.size = H.size := by rw [hT]
  have fin := k p e R s mid args below meth c _ (locs ++ (List.range N).map fun j => ⟨T.heap.size, j⟩) (cells + 1 + N) (slots + N + N * k8) Q ls C h1 h2 (by omega) (by omega) hH1 ⟨Nat.le_trans hS.1 (by omega), fun x g1 g2 => (f5 x (Nat.lt_of_lt_of_le g1 hS.1)).trans (hS.2.1 x g1 g2), fun q hq => by
    rcases List.mem_append.mp hq with h | h
    · exact hS.2.2 q h
    · obtain ⟨j, -, rfl⟩ := List.mem_map.mp h
      show am_base g ≤ T.heap.size
      rw [hsz, hH.1]
      omega⟩ hL hQ
  rw [hn3] at fin
  have e5 : am_v g (.ref M.length) = .ref T.heap.size := by rw [hsz, hH.1]; rfl
  rw [List.map_cons, e5] at fin
  obtain ⟨t, a1, b1⟩ := fin _ rfl X'
  exact ⟨t, step t a1, b1⟩
end AMZ
