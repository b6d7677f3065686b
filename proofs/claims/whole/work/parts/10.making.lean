/-! System.arraycopy of int arrays; new objects and arrays -/
section AME
variable {g : am_G} {d nc ns m i : Nat} {L : am_L} {st : List Value} {M : am_M} {K : am_K} {pc a b : Nat} {v : Int32} {ws : List Nat}
set_option maxHeartbeats 1000000 in
/-- the first n ints of one array into another one -/
theorem am_copy {k9 o o2 n0 n1 n : Nat} {f f2 : Nat → Int32} (h : am_op m i = some (.invokestatic k9, pc, a, b, 2, ws)) (ho : M[o]? = some (.inl (0, n0, .inl f))) (ho2 : M[o2]? = some (.inl (0, n1, .inl f2))) (hn0 : n ≤ n0) (hn1 : n ≤ n1) (hn : n < 2 ^ 31) (hs8 : (st.map fun v => v.category).sum ≤ 8)
    (k : AW g (d + 1) nc ns m (i + 1) L st (M.set o2 (.inl (0, n1, .inl (va_cpy f f2 0 0 n)))) K) : AW g (d + 1) nc ns m i L (.int (nI n) :: .int 0 :: .ref o2 :: .int 0 :: .ref o :: st) M K := by
  obtain ⟨hd, hx⟩ := am_dec h
  simp only [am_cx, Bool.and_eq_true, beq_iff_eq, if_true] at hx
  obtain ⟨hn3, ⟨⟨w0, w1⟩, w2⟩, w3⟩ := hx
  intro p e R s mid args below meth c H locs cells slots Q ls C h1 h2 h3 h4 hH hS hL hQ
  obtain ⟨hx0, hb0, -, hml, hown, -, -, hts, hSy, -⟩ := id C
  have hc0 : H[am_base g + o]? = some (arrV (am_ac g 0) n0 (fun j => .int (f j))) := hH.2.1 o _ ho
  have hc1 : H[am_base g + o2]? = some (arrV (am_ac g 0) n1 (fun j => .int (f2 j))) := hH.2.1 o2 _ ho2
  obtain ⟨-, k0, hk0, cm0, hkk0⟩ := (hSy.2 0 _ rfl).1 n0 (fun j => .int (f j))
  obtain ⟨-, k1, hk1, cm1, hkk1⟩ := (hSy.2 0 _ rfl).1 n1 (fun j => .int (f2 j))
  have hcl : (nI n).toNatClampNeg = n := nI_clamp hn
  have hti : (nI n).toInt = (n : Int) := nI_toInt hn
  intro T hT X
  obtain ⟨vm', X', step⟩ := X.arraycopy hx0 hown (am_word hts w0) (am_word hts w1) (am_word hts w2) (am_word hts w3) (src := am_base g + o) (dst := am_base g + o2) (srcPos := 0) (destPos := 0) (n := nI n) (by rw [hT]; exact hc0) (by rw [hT]; exact hc1)
    (fun _ h => by cases h) (fun _ h => by cases h) (fun h => by cases h) (fun h => by cases h) hk0 hk1 hkk0 hkk1 rfl (by decide) (by decide) (nI_pos hn)
    (by rw [hti, arrV_size]; show ¬ ((0 : Int32).toInt + (n : Int) > (n0 : Int)); rw [Int32.toInt_zero]; omega)
    (by rw [hti, arrV_size]; show ¬ ((0 : Int32).toInt + (n : Int) > (n1 : Int)); rw [Int32.toInt_zero]; omega)
    (fun vm₁ _ j hj => by
      rw [hcl] at hj
      have e0 : (arrV (am_ac g 0) n0 (fun j => Value.int (f j))).slots.getD ((0 : Int32).toNatClampNeg + j) .null = .int (f j) := by
        rw [show (0 : Int32).toNatClampNeg + j = j by rw [show (0 : Int32).toNatClampNeg = 0 by decide]; omega, Array.getD_eq_getD_getElem?, arrV_read _ _ (by omega)]
        rfl
      rw [e0]
      exact ⟨rfl, trivial⟩)
    (g := F0 mid (am_pc m i) ls (.int (nI n) :: .int 0 :: .ref (am_base g + o2) :: .int 0 :: .ref (am_base g + o) :: st.map (am_v g))) rfl (by rw [hml]; exact hL.1) (rest := st.map (am_v g)) rfl (by rw [hb0]; exact hd) (by omega) (by
      have := lv_room (m := mid) (pc := am_pc m i) (ls := ls) (rest := (.int (nI n) :: .int 0 :: .ref (am_base g + o2) :: .int 0 :: .ref (am_base g + o) :: st.map (am_v g))) (st := st.map (am_v g)) (by rw [am_stc]; exact hs8)
      have h5 : nativeFrameWords "java/lang/System" "arraycopy" 5 + 11 ≤ 32 := by decide +kernel
      exact Nat.le_trans (Nat.add_le_add this h5) (by omega))
  have e1 : copied (arrV (am_ac g 0) n0 (fun j => .int (f j))) (arrV (am_ac g 0) n1 (fun j => .int (f2 j))) 0 0 (nI n) = arrV (am_ac g 0) n1 (fun j => .int (va_cpy f f2 0 0 n j)) := by
    have := va_copied (fun z => Value.int z) (am_ac g 0) (am_ac g 0) (n0 := n0) (n1 := n1) (sp := 0) (dp := 0) (n := n) f f2 (by omega)
    rw [← this]
    show _ = Cell.storeRun _ 0 (Cell.stretch _ 0 n)
    unfold copied
    rw [hcl]
    rfl
  rw [e1] at X' step
  have hl : am_base g + o2 < H.size := (Array.getElem?_eq_some_iff.mp hc1).1
  generalize hcN : arrV (am_ac g 0) n1 (fun j => Value.int (va_cpy f f2 0 0 n j)) = cN at X' step
  have hheap : ((T.setVm vm').setCell (am_base g + o2) cN).heap = H.setIfInBounds (am_base g + o2) cN := by rw [← hT]; rfl
  have g1 : (H.setIfInBounds (am_base g + o2) cN)[am_base g + o2]? = some cN := by simp [Array.getElem?_setIfInBounds, hl]
  have g3 : ∀ q : Nat, q ≠ am_base g + o2 → (H.setIfInBounds (am_base g + o2) cN)[q]? = H[q]? := fun q hq => by simp [Array.getElem?_setIfInBounds, Ne.symm hq]
  have hSl : ∀ LL : List Loc, (∀ q ∈ LL, q.base = am_base g + o2) → va_S (am_A g) s.heap (H.setIfInBounds (am_base g + o2) cN) (locs ++ LL) := fun LL hLL => ⟨by simp; exact hS.1, fun q a1 a2 => by
      rw [g3 q (fun e => a2 (by rw [e]; exact Nat.le_add_right _ _))]
      exact hS.2.1 q a1 a2, fun q hq => by
      rcases List.mem_append.mp hq with h | h
      · exact hS.2.2 q h
      · rw [hLL q h]
        exact Nat.le_add_right _ _⟩
  have fin := fun (LL : List Loc) (hLL : ∀ q ∈ LL, q.base = am_base g + o2) => k p e R s mid args below meth c (H.setIfInBounds (am_base g + o2) cN) (locs ++ LL) cells slots Q ls C h1 h2 h3 h4 (hH.put ho2 (c := .inl (0, n1, .inl (va_cpy f f2 0 0 n))) (by show _ = some (vp_cell _ _); rw [g1, ← hcN]; rfl) (by simp) g3) (hSl LL hLL) hL hQ
  simp only [hn3] at fin
  obtain ⟨t, a1, b1⟩ := fin _ (fun q hq => by obtain ⟨z, -, hz⟩ := List.mem_map.mp hq; rw [← hz]) _ hheap X'
  exact ⟨t, step t a1, b1⟩
theorem am_zero {g : am_G} {ty : FieldType} {w : Value} (h : (match ty with | .int | .boolean => w == .int 0 | .object _ | .array _ => w == .null | _ => false) = true) : defaultValue ty = am_v g w := by
  cases ty <;> simp at h <;> subst h <;> rfl
/-- a new object: its fields are zero -/
theorem am_new {k9 n : Nat} {fs : List Value} (h : am_op m i = some (.new k9, pc, a, b, v, ws)) (hn : (am_kd a).2.2 = n) (hfs : ∀ j, j < n → (match am_ft a j with | .int | .boolean => vp_V fs j == .int 0 | .object _ | .array _ => vp_V fs j == .null | _ => false) = true) (hlen : fs.length = n)
    (k : AW g d nc ns m (i + 1) L (.ref M.length :: st) (M ++ [.inr (a, fs)]) K) : AW g d (nc + 1) (ns + n) m i L st M K := by
  obtain ⟨hd, hx⟩ := am_dec h
  simp only [am_cx, Bool.and_eq_true, beq_iff_eq, decide_eq_true_eq] at hx
  obtain ⟨⟨⟨⟨hn3, ha⟩, w0⟩, w1⟩, w2⟩ := hx
  intro p e R s mid args below meth c H locs cells slots Q ls C h1 h2 h3 h4 hH hS hL hQ
  obtain ⟨hx0, hb0, -, hml, hown, -, -, hts, hSy, -⟩ := id C
  subst hn
  have hKn := hSy.1.1 a _ (am_kd_at ha)
  refine W.newcK hx0 hb0 hown (am_word hts w0) (am_word hts w1) (am_word hts w2) rfl hd (by omega) (by omega) hKn.2.1 rfl fun H1 kC hkC e1 z1 o1 => ?_
  have hob := (u_born (am_ft a) hts (am_lay a ha) hKn hkC e1 (am_tok a ha)).to (V' := vp_V (fs.map (am_v g))) (fun j hj => by
    rw [am_zero (g := g) (hfs j hj)]
    simp [vp_V, List.getD_eq_getElem?_getD, List.getElem?_map]
    rw [List.getElem?_eq_getElem (by omega)]
    rfl)
  have hH1 : am_H g s (M ++ [.inr (a, fs)]) H1 := hH.push (c := .inr (a, fs)) ⟨_, am_kd_at ha, hob⟩ z1 o1
  have fin := k p e R s mid args below meth c H1 locs (cells + 1) (slots + (am_kd a).2.2) Q ls C h1 h2 (by omega) (by omega) hH1 ⟨Nat.le_trans hS.1 (by omega), fun x g1 g2 => (o1 x (Nat.lt_of_lt_of_le g1 hS.1)).trans (hS.2.1 x g1 g2), hS.2.2⟩ hL hQ
  rw [hn3] at fin
  have e5 : am_v g (.ref M.length) = .ref H.size := by rw [hH.1]; rfl
  rw [List.map_cons, e5] at fin
  exact fin
theorem am_newa {ty : ArrayType} {n : Nat} {x : Int32} (h : am_op m i = some (.newarray ty, pc, a, b, v, ws)) (hx9 : x = nI n) (hn : n < 1000000) (hty : ty = .int ∨ ty = .boolean)
    (k : AW g d nc ns m (i + 1) L (.ref M.length :: st) (M ++ [.inl (a, n, .inl fun _ => 0)]) K) : AW g d (nc + 1) (ns + n) m i L (.int x :: st) M K := by
  obtain ⟨hd, hx⟩ := am_dec h
  simp only [am_cx, Bool.and_eq_true, beq_iff_eq, decide_eq_true_eq] at hx
  obtain ⟨⟨hn3, ha⟩, w0⟩ := hx
  subst hx9
  intro p e R s mid args below meth c H locs cells slots Q ls C h1 h2 h3 h4 hH hS hL hQ
  obtain ⟨hx0, hb0, -, hml, hown, -, -, hts, hSy, -⟩ := id C
  refine va_newaK hx0 hb0 (am_word hts w0) rfl hd rfl (nI_pos (by omega)) (nI_clamp (by omega)) (by rcases hty with rfl | rfl <;> (simp only [newarray.typeOf, componentBytes]; omega)) (by omega) (by omega) rfl fun H1 cA e1 z1 o1 hAr hNm => ?_
  have hcA : cA = am_ac g a := Option.some.inj (hNm.symm.trans (hSy.2 a _ ha).2)
  subst hcA
  have hH1 : am_H g s (M ++ [.inl (a, n, .inl fun _ => 0)]) H1 := hH.push (c := .inl (a, n, .inl fun _ => 0)) (by
    show H1[H.size]? = some (vp_cell _ _)
    rw [e1]
    rcases hty with rfl | rfl <;> rfl) z1 o1
  have fin := k p e R s mid args below meth c H1 locs (cells + 1) (slots + n) Q ls C h1 h2 (by omega) (by omega) hH1 ⟨Nat.le_trans hS.1 (by omega), fun x g1 g2 => (o1 x (Nat.lt_of_lt_of_le g1 hS.1)).trans (hS.2.1 x g1 g2), hS.2.2⟩ hL hQ
  rw [hn3] at fin
  have e5 : am_v g (.ref M.length) = .ref H.size := by rw [hH.1]; rfl
  rw [List.map_cons, e5] at fin
  exact fin
theorem am_anew {k9 n : Nat} {x : Int32} (h : am_op m i = some (.anewarray k9, pc, a, b, v, ws)) (hx9 : x = nI n) (hn : n < 1000000)
    (k : AW g d nc ns m (i + 1) L (.ref M.length :: st) (M ++ [.inl (3, n, .inr fun _ => none)]) K) : AW g d (nc + 1) (ns + n) m i L (.int x :: st) M K := by
  obtain ⟨hd, hx⟩ := am_dec h
  simp only [am_cx, Bool.and_eq_true, beq_iff_eq, decide_eq_true_eq] at hx
  obtain ⟨⟨⟨hn3, ha⟩, w0⟩, w1⟩ := hx
  subst hx9
  intro p e R s mid args below meth c H locs cells slots Q ls C h1 h2 h3 h4 hH hS hL hQ
  obtain ⟨hx0, hb0, -, hml, hown, -, -, hts, hSy, -⟩ := id C
  have hcl : (nI n).toNatClampNeg = n := nI_clamp (by omega)
  refine W.anew hx0 hb0 hown (am_word hts w0) (am_word hts w1) rfl hd rfl (nI_pos (by omega)) (by rw [hcl]; omega) (by omega) (by rw [hcl]; omega) fun cA kA comp f1 f2 f3 f4 => ?_
  rw [hcl]
  have hcA : cA = am_ac g 3 := Option.some.inj (f1.symm.trans (hSy.2 3 _ rfl).2)
  subst hcA
  generalize hH1 : H.push ({ cls := am_ac g 3, slots := Array.replicate n .null, vm := .none } : Cell) = H1
  have z1 : H1.size = H.size + 1 := by rw [← hH1, Array.size_push]
  have e1 : H1[H.size]? = some (arrV (am_ac g 3) n (fun _ => .null)) := by rw [← hH1, Array.getElem?_push_size, ← arrV_new]
  have o1 : ∀ q : Nat, q < H.size → H1[q]? = H[q]? := fun q hq => by rw [← hH1, Array.getElem?_push, if_neg (Nat.ne_of_lt hq)]
  have hH2 : am_H g s (M ++ [.inl (3, n, .inr fun _ => none)]) H1 := hH.push (c := .inl (3, n, .inr fun _ => none)) (by
    show H1[H.size]? = some (vp_cell _ _)
    rw [e1]
    rfl) z1 o1
  have fin := k p e R s mid args below meth c H1 locs (cells + 1) (slots + n) Q ls C h1 h2 (by omega) (by omega) hH2 ⟨Nat.le_trans hS.1 (by omega), fun x g1 g2 => (o1 x (Nat.lt_of_lt_of_le g1 hS.1)).trans (hS.2.1 x g1 g2), hS.2.2⟩ hL hQ
  rw [hn3] at fin
  have e5 : am_v g (.ref M.length) = .ref H.size := by rw [hH.1]; rfl
  rw [List.map_cons, e5] at fin
  exact fin
end AME
