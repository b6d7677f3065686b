/-! the other calls, System.arraycopy, switches -/
def am_vn (a : Nat) : MethodName := am_vx.getD a ⟨"", "", ""⟩
def am_va (a ci : Nat) : Option (Nat × List Nat) := (am_vt.getD a []).getD ci none
def am_vck (a ci : Nat) : Bool := match am_va a ci with
  | none => true
  | some (f, ws) => am_w (ws.getD 0 0) (.selects (am_kd ci).1 (am_vn a) (am_y f)) && am_w (ws.getD 1 0) (.instanceMethod (am_y f)) && am_w (ws.getD 2 0) (.initialized (am_y f).cls) && am_w (ws.getD 3 0) (.code (am_y f) (am_b f) (am_mL f) (am_r f))
set_option maxRecDepth 100000 in
theorem am_vcks : ((List.range 5).all fun a => (List.range 12).all fun ci => am_vck a ci) = true := by decide +kernel
theorem am_vck_at {a ci : Nat} (ha : a < 5) (hc : ci < 12) : am_vck a ci = true := by
  have h := List.all_eq_true.mp am_vcks a (List.mem_range.mpr ha)
  exact List.all_eq_true.mp h ci (List.mem_range.mpr hc)
section AMD
variable {g : am_G} {d nc ns nc' ns' m i : Nat} {L : am_L} {st stk : List Value} {M : am_M} {K K' : am_K} {pc a b : Nat} {v : Int32} {ws : List Nat}
set_option maxHeartbeats 1000000 in
/-- invokevirtual of an abstract method: the receiver's kind says which is run -/
theorem am_cA {k9 o ci f : Nat} {fs : List Value} {ws2 : List Nat} (as : List Value) (h : am_op m i = some (.invokevirtual k9, pc, a, b, 1, ws)) (hst : stk = as.reverse ++ .ref o :: st) (ho : M[o]? = some (.inr (ci, fs))) (hva : am_va a ci = some (f, ws2)) (ha5 : a < 5) (hc12 : ci < 12) (hok : am_okc f (b + 1) (.ref o :: as) st = true)
    (kc : AW g d nc' ns' f 0 (am_L0 f (.ref o :: as)) [] M K') (kk : ∀ (r : Option Value) (M' : am_M), K' r M' → am_rk r → AW g (d + 1) nc ns m (i + 1) L (r.toList ++ st) M' K) : AW g (d + 1) (nc + nc') (ns + ns') m i L stk M K := by
  subst hst
  obtain ⟨hd, hx⟩ := am_dec h
  simp only [am_cx, Bool.and_eq_true, beq_iff_eq, if_true] at hx
  obtain ⟨hn, ⟨⟨⟨w0, w1⟩, w2⟩, w5⟩, w6⟩ := hx
  have hv := am_vck_at ha5 hc12
  unfold am_vck at hv
  rw [hva] at hv
  simp only [Bool.and_eq_true] at hv
  obtain ⟨⟨⟨x0, x1⟩, x2⟩, x3⟩ := hv
  unfold am_okc at hok
  simp only [Bool.and_eq_true, beq_iff_eq, decide_eq_true_eq, List.all_eq_true] at hok
  obtain ⟨⟨⟨⟨⟨⟨k0, k1⟩, k2⟩, k3⟩, k4⟩, k5⟩, k6⟩ := hok
  intro p e R s mid args below meth c H locs cells slots Q ls C h1 h2 h3 h4 hH hS hL hQ
  obtain ⟨hx0, hb0, -, hml, hown, -, -, hts, hSy, -⟩ := id C
  have hM := am_met k0 k1 (by omega) k5 kc
  have hrun := va_runU (l := g.1) (e := e) (below := below) (meth := meth) (R := R) (locs := locs) (cells := cells) (slots := slots) (Ts := lw_tbl) (C := (am_kd ci).1) (owner := (am_vn a).cls) (x := am_vn a) (b := am_base g + o) (As := as.map (am_v g)) (rest := st.map (am_v g)) (n := b) (g := F0 mid (am_pc m i) ls ((as.reverse ++ .ref o :: st).map (am_v g))) (nL := am_mL m) ⟨hx0, hb0, hml, hown, hts⟩ hM
    ⟨⟨rfl, rfl, by show d + 1 ≤ _; omega, by show 8 + (am_mL f + 11) + 40 * d ≤ _; omega, am_wsh hts (am_wmem x3), List.mem_cons_self⟩, am_word hts x3, am_word hts x2, am_nm_ne w5, am_np_len w6, am_word hts w0, am_word hts w1, va_Decl.abs (va_Nw.of rfl (am_word hts w2)), am_word hts x0, am_word hts x1⟩
    ⟨am_blind g _ _, va_recv (ci := ci) (q0 := 0) hSy.1 (am_P1 hH ho) (am_kd_at hc12) rfl, fun U hU hW => ⟨rfl, hSy.moved hW.alike, by rw [hU]; exact hH.moved hW.alike⟩⟩ rfl (by rw [List.length_map]; simpa using k2) hL.1 (by show List.map _ _ = _; rw [List.map_append, List.map_reverse]; rfl) (lv_room (by rw [am_stc]; exact k6)) hd ⟨by omega, by omega⟩
  refine am_back hrun hS (fun r M' H1 locs1 hk hrk hH1 hS1 => ?_)
  have fin := kk r M' hk hrk p e R s mid args below meth c H1 locs1 (cells + nc') (slots + ns') Q ls C h1 h2 (by omega) (by omega) hH1 hS1 hL hQ
  rw [hn, List.map_append] at fin
  have e9 : (r.toList).map (am_v g) = (r.map (am_v g)).toList := by cases r <;> rfl
  rw [e9] at fin
  exact fin
set_option maxHeartbeats 1000000 in
theorem am_cS {k9 : Nat} (as : List Value) (h : am_op m i = some (.invokestatic k9, pc, a, b, 0, ws)) (hst : stk = as.reverse ++ st) (hok : am_okc a b as st = true)
    (kc : AW g d nc' ns' a 0 (am_L0 a as) [] M K') (kk : ∀ (r : Option Value) (M' : am_M), K' r M' → am_rk r → AW g (d + 1) nc ns m (i + 1) L (r.toList ++ st) M' K) : AW g (d + 1) (nc + nc') (ns + ns') m i L stk M K := by
  subst hst
  obtain ⟨hd, hx⟩ := am_dec h
  simp only [am_cx, Bool.and_eq_true, beq_iff_eq, if_neg (show ¬ (0 : Int32) = 2 by decide)] at hx
  obtain ⟨hn, ⟨⟨⟨⟨w0, w1⟩, w3⟩, w4⟩, w5⟩, w6⟩ := hx
  unfold am_okc at hok
  simp only [Bool.and_eq_true, beq_iff_eq, decide_eq_true_eq, List.all_eq_true] at hok
  obtain ⟨⟨⟨⟨⟨⟨k0, k1⟩, k2⟩, k3⟩, k4⟩, k5⟩, k6⟩ := hok
  intro p e R s mid args below meth c H locs cells slots Q ls C h1 h2 h3 h4 hH hS hL hQ
  obtain ⟨hx0, hb0, -, hml, hown, -, -, hts, hSy, -⟩ := id C
  have hM := am_met k0 k1 (by omega) k5 kc
  have hrun := va_runS (l := g.1) (e := e) (below := below) (meth := meth) (R := R) (locs := locs) (cells := cells) (slots := slots) (Ts := lw_tbl) (As := as.map (am_v g)) (rest := st.map (am_v g)) (n := b) (g := F0 mid (am_pc m i) ls ((as.reverse ++ st).map (am_v g))) (nL := am_mL m) ⟨hx0, hb0, hml, hown, hts⟩ hM
    ⟨⟨rfl, rfl, by show d + 1 ≤ _; omega, by show 8 + (am_mL a + 11) + 40 * d ≤ _; omega, am_wsh hts (am_wmem w4), List.mem_cons_self, am_word hts w4, am_word hts w3, am_nm_ne w5, am_np_len w6, am_word hts w0⟩, am_word hts w1⟩
    ⟨am_blind g _ _, fun U hU hW => ⟨rfl, hSy.moved hW.alike, by rw [hU]; exact hH.moved hW.alike⟩⟩ rfl (by rw [List.length_map]; exact k2) hL.1 (by show List.map _ _ = _; rw [List.map_append, List.map_reverse]) (lv_room (by rw [am_stc]; exact k6)) hd ⟨by omega, by omega⟩
  refine am_back hrun hS (fun r M' H1 locs1 hk hrk hH1 hS1 => ?_)
  have fin := kk r M' hk hrk p e R s mid args below meth c H1 locs1 (cells + nc') (slots + ns') Q ls C h1 h2 (by omega) (by omega) hH1 hS1 hL hQ
  rw [hn, List.map_append] at fin
  have e9 : (r.toList).map (am_v g) = (r.map (am_v g)).toList := by cases r <;> rfl
  rw [e9] at fin
  exact fin
set_option maxHeartbeats 1000000 in
/-- a constructor, by a plain link -/
theorem am_cI {k9 o : Nat} (as : List Value) (h : am_op m i = some (.invokespecial k9, pc, a, b, 0, ws)) (hst : stk = as.reverse ++ .ref o :: st) (hok : am_okc a (b + 1) (.ref o :: as) st = true)
    (kc : AW g d nc' ns' a 0 (am_L0 a (.ref o :: as)) [] M K') (kk : ∀ (r : Option Value) (M' : am_M), K' r M' → am_rk r → AW g (d + 1) nc ns m (i + 1) L (r.toList ++ st) M' K) : AW g (d + 1) (nc + nc') (ns + ns') m i L stk M K := by
  subst hst
  obtain ⟨hd, hx⟩ := am_dec h
  simp only [am_cx, Bool.and_eq_true, beq_iff_eq, decide_eq_true_eq, if_neg (show ¬ (0 : Int32) = 2 by decide), if_neg (show ¬ (0 : Int32) = 1 by decide)] at hx
  obtain ⟨hn, ⟨⟨⟨⟨⟨⟨w0, w1⟩, w3⟩, w4⟩, wr⟩, wn⟩, w5⟩, w6⟩ := hx
  unfold am_okc at hok
  simp only [Bool.and_eq_true, beq_iff_eq, decide_eq_true_eq, List.all_eq_true] at hok
  obtain ⟨⟨⟨⟨⟨⟨k0, k1⟩, k2⟩, k3⟩, k4⟩, k5⟩, k6⟩ := hok
  intro p e R s mid args below meth c H locs cells slots Q ls C h1 h2 h3 h4 hH hS hL hQ
  obtain ⟨hx0, hb0, -, hml, hown, -, -, hts, hSy, -⟩ := id C
  have hM := am_met k0 k1 (by omega) k5 kc
  have hrun := va_runI (l := g.1) (e := e) (below := below) (meth := meth) (R := R) (locs := locs) (cells := cells) (slots := slots) (Ts := lw_tbl) (b := am_base g + o) (As := as.map (am_v g)) (rest := st.map (am_v g)) (n := b) (g := F0 mid (am_pc m i) ls ((as.reverse ++ .ref o :: st).map (am_v g))) (nL := am_mL m) ⟨hx0, hb0, hml, hown, hts⟩ hM
    ⟨⟨rfl, rfl, by show d + 1 ≤ _; omega, by show 8 + (am_mL a + 11) + 40 * d ≤ _; omega, am_wsh hts (by rw [wr]; exact am_wmem w4), by unfold am_ws; rw [wr]; exact List.mem_cons_self, am_word hts w4, am_word hts w3, am_nm_ne w5, am_np_len w6, am_word hts w0⟩, wn, am_word hts w1⟩
    ⟨am_blind g _ _, fun U hU hW => ⟨rfl, hSy.moved hW.alike, by rw [hU]; exact hH.moved hW.alike⟩⟩ rfl (by rw [List.length_map]; simpa using k2) hL.1 (by show List.map _ _ = _; rw [List.map_append, List.map_reverse]; rfl) (lv_room (by rw [am_stc]; exact k6)) hd ⟨by omega, by omega⟩
  refine am_back hrun hS (fun r M' H1 locs1 hk hrk hH1 hS1 => ?_)
  have fin := kk r M' hk hrk p e R s mid args below meth c H1 locs1 (cells + nc') (slots + ns') Q ls C h1 h2 (by omega) (by omega) hH1 hS1 hL hQ
  rw [hn, List.map_append] at fin
  have e9 : (r.toList).map (am_v g) = (r.map (am_v g)).toList := by cases r <;> rfl
  rw [e9] at fin
  exact fin
set_option maxHeartbeats 1000000 in
/-- a constructor of a nest mate -/
theorem am_cN {k9 o : Nat} (as : List Value) (h : am_op m i = some (.invokespecial k9, pc, a, b, 1, ws)) (hst : stk = as.reverse ++ .ref o :: st) (hok : am_okc a (b + 1) (.ref o :: as) st = true)
    (kc : AW g d nc' ns' a 0 (am_L0 a (.ref o :: as)) [] M K') (kk : ∀ (r : Option Value) (M' : am_M), K' r M' → am_rk r → AW g (d + 1) nc ns m (i + 1) L (r.toList ++ st) M' K) : AW g (d + 1) (nc + nc') (ns + ns') m i L stk M K := by
  subst hst
  obtain ⟨hd, hx⟩ := am_dec h
  simp only [am_cx, Bool.and_eq_true, beq_iff_eq, decide_eq_true_eq, if_neg (show ¬ (1 : Int32) = 2 by decide), if_true] at hx
  obtain ⟨hn, ⟨⟨⟨⟨⟨⟨w0, w1⟩, w3⟩, w4⟩, wr⟩, wn⟩, w5⟩, w6⟩ := hx
  unfold am_okc at hok
  simp only [Bool.and_eq_true, beq_iff_eq, decide_eq_true_eq, List.all_eq_true] at hok
  obtain ⟨⟨⟨⟨⟨⟨k0, k1⟩, k2⟩, k3⟩, k4⟩, k5⟩, k6⟩ := hok
  intro p e R s mid args below meth c H locs cells slots Q ls C h1 h2 h3 h4 hH hS hL hQ
  obtain ⟨hx0, hb0, -, hml, hown, -, -, hts, hSy, -⟩ := id C
  have hM := am_met k0 k1 (by omega) k5 kc
  have hrun := va_runIN (l := g.1) (e := e) (below := below) (meth := meth) (R := R) (locs := locs) (cells := cells) (slots := slots) (Ts := lw_tbl) (host := "RoundBench") (b := am_base g + o) (As := as.map (am_v g)) (rest := st.map (am_v g)) (n := b) (g := F0 mid (am_pc m i) ls ((as.reverse ++ .ref o :: st).map (am_v g))) (nL := am_mL m) ⟨hx0, hb0, hml, hown, hts⟩ hM
    ⟨⟨⟨rfl, rfl, by show d + 1 ≤ _; omega, by show 8 + (am_mL a + 11) + 40 * d ≤ _; omega, am_wsh hts (by rw [wr]; exact am_wmem w4), by unfold am_ws; rw [wr]; exact List.mem_cons_self⟩, am_word hts w4, am_word hts w3, am_nm_ne w5, am_np_len w6, am_word hts w0⟩, wn, am_word hts w1⟩
    ⟨am_blind g _ _, fun U hU hW => ⟨rfl, hSy.moved hW.alike, by rw [hU]; exact hH.moved hW.alike⟩⟩ rfl (by rw [List.length_map]; simpa using k2) hL.1 (by show List.map _ _ = _; rw [List.map_append, List.map_reverse]; rfl) (lv_room (by rw [am_stc]; exact k6)) hd ⟨by omega, by omega⟩
  refine am_back hrun hS (fun r M' H1 locs1 hk hrk hH1 hS1 => ?_)
  have fin := kk r M' hk hrk p e R s mid args below meth c H1 locs1 (cells + nc') (slots + ns') Q ls C h1 h2 (by omega) (by omega) hH1 hS1 hL hQ
  rw [hn, List.map_append] at fin
  have e9 : (r.toList).map (am_v g) = (r.map (am_v g)).toList := by cases r <;> rfl
  rw [e9] at fin
  exact fin
/-- Object's own constructor -/
theorem am_cO {k9 o : Nat} (h : am_op m i = some (.invokespecial k9, pc, a, b, 2, ws)) (hs8 : (st.map fun v => v.category).sum ≤ 8) (k : AW g (d + 1) nc ns m (i + 1) L st M K) : AW g (d + 1) nc ns m i L (.ref o :: st) M K := by
  obtain ⟨hd, hx⟩ := am_dec h
  simp only [am_cx, Bool.and_eq_true, beq_iff_eq, if_true] at hx
  obtain ⟨hn, ⟨w0, w1⟩, w2⟩ := hx
  intro p e R s mid args below meth c H locs cells slots Q ls C h1 h2 h3 h4 hH hS hL hQ
  obtain ⟨hx0, hb0, -, hml, hown, -, -, hts, hSy, -⟩ := id C
  refine W.objInit hx0 hb0 hown (am_word hts w0) (am_word hts w1) (am_word hts w2) rfl (by rw [hml]; exact hL.1) rfl hd (by omega) (by have := lv_room (m := mid) (pc := am_pc m i) (ls := ls) (rest := st.map (am_v g)) (st := st.map (am_v g)) (by rw [am_stc]; exact hs8); show 2 * (F0 mid (am_pc m i) ls _).monitorRoom + _ + 12 ≤ _; exact Nat.le_trans (Nat.add_le_add_right this 12) (by omega)) ?_
  have fin := k p e R s mid args below meth c H locs cells slots Q ls C h1 h2 h3 h4 hH hS hL hQ
  rw [hn] at fin
  exact fin
/-- tableswitch, by the int -/
theorem am_swIn {dflt lo hi : Int} {offs : Array Int} {x : Int32} {j tgt : Nat} (h : am_op m i = some (.tableswitch dflt lo hi offs, pc, a, b, v, ws)) (hx9 : x.toInt = v.toInt + j) (hj : j < b) (ht : ws[j]? = some tgt) (k : AW g d nc ns m tgt L st M K) : AW g d nc ns m i L (.int x :: st) M K := by
  obtain ⟨hd, hx⟩ := am_dec h
  simp only [am_cx, Bool.and_eq_true, beq_iff_eq, decide_eq_true_eq] at hx
  obtain ⟨⟨⟨⟨w0, w1⟩, w2⟩, w3⟩, w4⟩ := hx
  have hl : (offs.toList.map (fun o => ((am_pc m i : Nat) : Int) + o))[j]? = some ((am_pc m tgt : Nat) : Int) := by rw [w3, List.getElem?_map, ht]; rfl
  rw [List.getElem?_map] at hl
  cases ho : offs.toList[j]? with
  | none => rw [ho] at hl; cases hl
  | some off =>
    rw [ho] at hl
    have hl : ((am_pc m i : Nat) : Int) + off = ((am_pc m tgt : Nat) : Int) := Option.some.inj hl
    refine am_lift (fun C _ _ _ w => ?_) k
    refine lv_tableIn C.1 C.2.1 hd (by omega) (by omega) (off := off) ?_ hl w
    rw [hx9, w1, show (v.toInt + (j : Int) - v.toInt).toNat = j by omega, ← Array.getElem?_toList]
    exact ho
theorem am_swOut {dflt lo hi : Int} {offs : Array Int} {x : Int32} (h : am_op m i = some (.tableswitch dflt lo hi offs, pc, a, b, v, ws)) (hx9 : x.toInt < v.toInt ∨ v.toInt + b ≤ x.toInt) (k : AW g d nc ns m a L st M K) : AW g d nc ns m i L (.int x :: st) M K := by
  obtain ⟨hd, hx⟩ := am_dec h
  simp only [am_cx, Bool.and_eq_true, beq_iff_eq, decide_eq_true_eq] at hx
  obtain ⟨⟨⟨⟨w0, w1⟩, w2⟩, w3⟩, w4⟩ := hx
  refine am_lift (fun C _ _ _ w => ?_) k
  exact lv_tableOut C.1 C.2.1 hd (by omega) w0 w
end AMD
