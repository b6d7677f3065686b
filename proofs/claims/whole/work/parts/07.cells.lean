/-! rows of the abstract machine: fields and arrays -/
theorem am_lay0 : ∀ w ∈ u_ws am_R0 am_T0 4, w ∈ lw_tbl := by decide +kernel
theorem am_tok0 : ∀ k, k < 4 → parseFieldDescriptor (am_T0 k).2.2.1 = some (am_t0 k) := by decide +kernel
theorem am_nok0 : ∀ x, x < 4 → ∀ y, y < 4 → x ≠ y → (am_T0 x).2.1 ≠ (am_T0 y).2.1 := by decide +kernel
theorem am_lay1 : ∀ w ∈ u_ws am_R1 am_T1 8, w ∈ lw_tbl := by decide +kernel
theorem am_tok1 : ∀ k, k < 8 → parseFieldDescriptor (am_T1 k).2.2.1 = some (am_t1 k) := by decide +kernel
theorem am_nok1 : ∀ x, x < 8 → ∀ y, y < 8 → x ≠ y → (am_T1 x).2.1 ≠ (am_T1 y).2.1 := by decide +kernel
theorem am_lay2 : ∀ w ∈ u_ws am_R2 am_T2 6, w ∈ lw_tbl := by decide +kernel
theorem am_tok2 : ∀ k, k < 6 → parseFieldDescriptor (am_T2 k).2.2.1 = some (am_t2 k) := by decide +kernel
theorem am_nok2 : ∀ x, x < 6 → ∀ y, y < 6 → x ≠ y → (am_T2 x).2.1 ≠ (am_T2 y).2.1 := by decide +kernel
theorem am_lay3 : ∀ w ∈ u_ws am_R3 am_T3 0, w ∈ lw_tbl := by decide +kernel
theorem am_tok3 : ∀ k, k < 0 → parseFieldDescriptor (am_T3 k).2.2.1 = some (am_t3 k) := by decide +kernel
theorem am_nok3 : ∀ x, x < 0 → ∀ y, y < 0 → x ≠ y → (am_T3 x).2.1 ≠ (am_T3 y).2.1 := by decide +kernel
theorem am_lay4 : ∀ w ∈ u_ws am_R4 am_T4 0, w ∈ lw_tbl := by decide +kernel
theorem am_tok4 : ∀ k, k < 0 → parseFieldDescriptor (am_T4 k).2.2.1 = some (am_t4 k) := by decide +kernel
theorem am_nok4 : ∀ x, x < 0 → ∀ y, y < 0 → x ≠ y → (am_T4 x).2.1 ≠ (am_T4 y).2.1 := by decide +kernel
theorem am_lay5 : ∀ w ∈ u_ws am_R5 am_T5 0, w ∈ lw_tbl := by decide +kernel
theorem am_tok5 : ∀ k, k < 0 → parseFieldDescriptor (am_T5 k).2.2.1 = some (am_t5 k) := by decide +kernel
theorem am_nok5 : ∀ x, x < 0 → ∀ y, y < 0 → x ≠ y → (am_T5 x).2.1 ≠ (am_T5 y).2.1 := by decide +kernel
theorem am_lay6 : ∀ w ∈ u_ws am_R6 am_T6 0, w ∈ lw_tbl := by decide +kernel
theorem am_tok6 : ∀ k, k < 0 → parseFieldDescriptor (am_T6 k).2.2.1 = some (am_t6 k) := by decide +kernel
theorem am_nok6 : ∀ x, x < 0 → ∀ y, y < 0 → x ≠ y → (am_T6 x).2.1 ≠ (am_T6 y).2.1 := by decide +kernel
theorem am_lay7 : ∀ w ∈ u_ws am_R7 am_T7 0, w ∈ lw_tbl := by decide +kernel
theorem am_tok7 : ∀ k, k < 0 → parseFieldDescriptor (am_T7 k).2.2.1 = some (am_t7 k) := by decide +kernel
theorem am_nok7 : ∀ x, x < 0 → ∀ y, y < 0 → x ≠ y → (am_T7 x).2.1 ≠ (am_T7 y).2.1 := by decide +kernel
theorem am_lay8 : ∀ w ∈ u_ws am_R8 am_T8 0, w ∈ lw_tbl := by decide +kernel
theorem am_tok8 : ∀ k, k < 0 → parseFieldDescriptor (am_T8 k).2.2.1 = some (am_t8 k) := by decide +kernel
theorem am_nok8 : ∀ x, x < 0 → ∀ y, y < 0 → x ≠ y → (am_T8 x).2.1 ≠ (am_T8 y).2.1 := by decide +kernel
theorem am_lay9 : ∀ w ∈ u_ws am_R9 am_T9 0, w ∈ lw_tbl := by decide +kernel
theorem am_tok9 : ∀ k, k < 0 → parseFieldDescriptor (am_T9 k).2.2.1 = some (am_t9 k) := by decide +kernel
theorem am_nok9 : ∀ x, x < 0 → ∀ y, y < 0 → x ≠ y → (am_T9 x).2.1 ≠ (am_T9 y).2.1 := by decide +kernel
theorem am_lay10 : ∀ w ∈ u_ws am_R10 am_T10 0, w ∈ lw_tbl := by decide +kernel
theorem am_tok10 : ∀ k, k < 0 → parseFieldDescriptor (am_T10 k).2.2.1 = some (am_t10 k) := by decide +kernel
theorem am_nok10 : ∀ x, x < 0 → ∀ y, y < 0 → x ≠ y → (am_T10 x).2.1 ≠ (am_T10 y).2.1 := by decide +kernel
theorem am_lay11 : ∀ w ∈ u_ws am_R11 am_T11 19, w ∈ lw_tbl := by decide +kernel
theorem am_tok11 : ∀ k, k < 19 → parseFieldDescriptor (am_T11 k).2.2.1 = some (am_t11 k) := by decide +kernel
theorem am_nok11 : ∀ x, x < 19 → ∀ y, y < 19 → x ≠ y → (am_T11 x).2.1 ≠ (am_T11 y).2.1 := by decide +kernel
def am_ft (a : Nat) : Nat → FieldType := am_tl.getD a (fun _ => .int)
theorem am_lay : ∀ a : Nat, a < am_cl.length → ∀ w ∈ u_ws (am_kd a).1 (am_kd a).2.1 (am_kd a).2.2, w ∈ lw_tbl
  | 0, _ => am_lay0
  | 1, _ => am_lay1
  | 2, _ => am_lay2
  | 3, _ => am_lay3
  | 4, _ => am_lay4
  | 5, _ => am_lay5
  | 6, _ => am_lay6
  | 7, _ => am_lay7
  | 8, _ => am_lay8
  | 9, _ => am_lay9
  | 10, _ => am_lay10
  | 11, _ => am_lay11
  | n + 12, h => absurd h (by show ¬ n + 12 < 12; omega)
theorem am_tok : ∀ a : Nat, a < am_cl.length → ∀ k, k < (am_kd a).2.2 → parseFieldDescriptor ((am_kd a).2.1 k).2.2.1 = some (am_ft a k)
  | 0, _ => am_tok0
  | 1, _ => am_tok1
  | 2, _ => am_tok2
  | 3, _ => am_tok3
  | 4, _ => am_tok4
  | 5, _ => am_tok5
  | 6, _ => am_tok6
  | 7, _ => am_tok7
  | 8, _ => am_tok8
  | 9, _ => am_tok9
  | 10, _ => am_tok10
  | 11, _ => am_tok11
  | n + 12, h => absurd h (by show ¬ n + 12 < 12; omega)
theorem am_nok : ∀ a : Nat, a < am_cl.length → ∀ x, x < (am_kd a).2.2 → ∀ y, y < (am_kd a).2.2 → x ≠ y → ((am_kd a).2.1 x).2.1 ≠ ((am_kd a).2.1 y).2.1
  | 0, _ => am_nok0
  | 1, _ => am_nok1
  | 2, _ => am_nok2
  | 3, _ => am_nok3
  | 4, _ => am_nok4
  | 5, _ => am_nok5
  | 6, _ => am_nok6
  | 7, _ => am_nok7
  | 8, _ => am_nok8
  | 9, _ => am_nok9
  | 10, _ => am_nok10
  | 11, _ => am_nok11
  | n + 12, h => absurd h (by show ¬ n + 12 < 12; omega)
/-- may a value stand in a field or an array of the type -/
def am_fb : FieldType → Value → Bool
  | .int, .int _ => true
  | .boolean, .int x => decide (x = 0) || decide (x = 1)
  | .object _, .null | .object _, .ref _ | .array _, .null | .array _, .ref _ => true
  | _, _ => false
theorem am_fb_ok {g : am_G} {ty : FieldType} {w : Value} (h : am_fb ty w = true) : narrow ty (am_v g w) = am_v g w ∧ fits ty (am_v g w) = true := by
  cases ty <;> cases w <;> first | (exact ⟨rfl, rfl⟩) | (cases h; done) | skip
  rename_i x
  simp only [am_fb, Bool.or_eq_true, decide_eq_true_eq] at h
  rcases h with rfl | rfl <;> exact ⟨by rfl, by rfl⟩
theorem am_fb_v {g : am_G} {ty : FieldType} {w : Value} (h : am_fb ty w = true) : (∃ x, am_v g w = .int x) ∨ am_v g w = .null ∨ ∃ q, am_v g w = .ref q := by
  cases ty <;> cases w <;> first | (cases h; done) | exact Or.inl ⟨_, rfl⟩ | exact Or.inr (Or.inl rfl) | exact Or.inr (Or.inr ⟨_, rfl⟩)
theorem am_H.put {g : am_G} {U : State} {M : am_M} {H H1 : Heap} {o : Nat} {c0 c : am_C} (hH : am_H g U M H) (ho : M[o]? = some c0) (he : va_at (am_D g) am_cl (am_base g + o, am_e g c) H1) (z : H1.size = H.size) (oq : ∀ q : Nat, q ≠ am_base g + o → H1[q]? = H[q]?) : am_H g U (M.set o c) H1 := by
  obtain ⟨h1, h2, h3, h4⟩ := hH
  refine ⟨by rw [z, h1, List.length_set], fun i c' hi => ?_, h3.kept (oq _ (by omega)), h4⟩
  by_cases e : o = i
  · subst e
    have hl : o < M.length := (List.getElem?_eq_some_iff.mp ho).1
    rw [List.getElem?_set_self hl] at hi
    cases hi
    exact he
  · rw [List.getElem?_set_ne e] at hi
    exact (h2 i c' hi).kept (oq _ (by show am_base g + i ≠ am_base g + o; omega))
theorem am_H.push {g : am_G} {U : State} {M : am_M} {H H1 : Heap} {c : am_C} (hH : am_H g U M H) (he : va_at (am_D g) am_cl (H.size, am_e g c) H1) (z : H1.size = H.size + 1) (oq : ∀ q : Nat, q < H.size → H1[q]? = H[q]?) : am_H g U (M ++ [c]) H1 := by
  obtain ⟨h1, h2, h3, h4⟩ := hH
  refine ⟨by rw [z, h1, List.length_append]; rfl, fun i c' hi => ?_, h3.kept (oq _ (by omega)), h4⟩
  by_cases e : i < M.length
  · rw [List.getElem?_append_left e] at hi
    exact (h2 i c' hi).kept (oq _ (by show am_base g + i < H.size; omega))
  · rw [List.getElem?_append_right (by omega)] at hi
    have h0 : i - M.length < 1 := (List.getElem?_eq_some_iff.mp hi).1
    have e1 : i = M.length := by omega
    subst e1
    rw [Nat.sub_self] at hi
    cases hi
    rw [← h1]
    exact he
theorem am_K1 {g : am_G} {U : State} (h : am_Sy g U) {t : Nat} {ty : FieldType} (ht : am_tys[t]? = some ty) (hp : match ty with | .object _ => False | _ => True) : va_K (am_D g) am_cl [(am_ac g t, ty)] U := by
  refine ⟨h.1.1, fun k q hk => ?_⟩
  match k, hk with
  | 0, hk =>
    cases hk
    refine ⟨(h.2 t ty ht).1, ?_⟩
    have := (h.2 t ty ht).2
    cases ty <;> first | exact this | exact hp.elim
  | k + 1, hk => simp at hk
theorem am_P1 {g : am_G} {U : State} {M : am_M} {H : Heap} {o : Nat} {c : am_C} (hH : am_H g U M H) (ho : M[o]? = some c) : va_P (am_D g) am_cl [(am_base g + o, am_e g c)] H := by
  intro k q hk
  match k, hk with
  | 0, hk => cases hk; exact hH.2.1 o c ho
  | k + 1, hk => simp at hk
section AMH
variable {g : am_G} {d nc ns m i : Nat} {L : am_L} {st : List Value} {M : am_M} {K : am_K} {pc a b : Nat} {v : Int32} {ws : List Nat}
theorem am_get {k9 o : Nat} {fs : List Value} {u : Value} (h : am_op m i = some (.getfield k9, pc, a, b, v, ws)) (ho : M[o]? = some (.inr (a, fs))) (hu : fs[b]? = some u) (k : AW g d nc ns m (i + 1) L (u :: st) M K) : AW g d nc ns m i L (.ref o :: st) M K := by
  obtain ⟨hd, hx⟩ := am_dec h
  simp only [am_cx, Bool.and_eq_true, beq_iff_eq, decide_eq_true_eq] at hx
  obtain ⟨⟨⟨hn, ha⟩, hb⟩, hw⟩ := hx
  refine am_lift (fun C _ hH _ w => ?_) k
  rw [hn] at w
  obtain ⟨hx0, hb0, -, -, hown, -, -, hts, hSy, -⟩ := C
  exact va_get (D := am_D g) (ci := a) (v := am_v g u) (fs := fs.map (am_v g)) (C := (am_kd a).1) (T := (am_kd a).2.1) (N := (am_kd a).2.2) hx0 hb0 hts (am_lay a ha) hown hSy.1 (am_P1 hH ho) 0 rfl (am_kd_at ha) b hb (am_word hts hw) (fun _ h9 => h9) (by rw [List.getElem?_map, hu]; rfl) hd w
set_option maxHeartbeats 1000000 in
theorem am_put {k9 o : Nat} {fs : List Value} {u : Value} (h : am_op m i = some (.putfield k9, pc, a, b, v, ws)) (ho : M[o]? = some (.inr (a, fs))) (hl : b < fs.length) (hu : am_fb (am_ft a b) u = true) (k : AW g d nc ns m (i + 1) L st (M.set o (.inr (a, fs.set b u))) K) : AW g d nc ns m i L (u :: .ref o :: st) M K := by
  obtain ⟨hd, hx⟩ := am_dec h
  simp only [am_cx, Bool.and_eq_true, beq_iff_eq, decide_eq_true_eq, Bool.or_eq_true, Bool.not_eq_true'] at hx
  obtain ⟨⟨⟨⟨hn, ha⟩, hb⟩, hw⟩, hfin⟩ := hx
  intro p e R s mid args below meth c H locs cells slots Q ls C h1 h2 h3 h4 hH hS hL hQ
  obtain ⟨hx0, hb0, -, -, hown, hnm, -, hts, hSy, -⟩ := id C
  have hc := am_kd_at ha
  have hK := hSy.1
  have hap := va_apart (own := (am_y m).cls) hts (am_lay a ha) (am_ft a) (am_tok a ha) (am_nok a ha) hK hc
  obtain ⟨r, e1, cell, q1, q2, q3, q4⟩ := hH.2.1 o _ ho
  have hr : r = ((am_kd a).1, (am_kd a).2.1, (am_kd a).2.2) := Option.some.inj (e1.symm.trans hc)
  subst hr
  obtain ⟨hSl, hfc, kC, hkC, hkind⟩ := hK.1 a _ hc
  obtain ⟨cf, kf, fi, f, hi, hsl⟩ := hSl b hb
  have hst := (u_facts hfc hkC (u_lays hts (am_lay a ha) hb) hi).1
  obtain ⟨hnar, hfit⟩ := am_fb_ok (g := g) hu
  have hlay := hts _ (am_lay a ha _ (u_in_lay hb))
  have hslot : f.slot < cell.slots.size := by rw [hsl]; exact k2_hasslot (q4 b hb)
  have cont : ∀ H' : Heap, H'[am_base g + o]? = some (cell.setSlot f.slot (am_v g u)) → H'.size = H.size → (∀ q, q ≠ am_base g + o → H'[q]? = H[q]?) → W p g.1 e R s mid args below meth c H' (locs ++ [⟨am_base g + o, f.slot⟩]) cells slots Q (F0 mid (am_pc m i + 3) ls (st.map (am_v g))) := by
    intro H' g1 g2 g3
    rw [← hn]
    refine k p e R s mid args below meth c H' _ cells slots Q ls C h1 h2 h3 h4 (hH.put ho ?_ g2 g3) (hS.put g2 g3 (Nat.le_add_right _ _)) hL hQ
    rw [hsl] at g1
    refine ⟨_, hc, t_OB.to (V := updV (vp_V (fs.map (am_v g))) b (am_v g u)) ⟨_, g1, q2, q3, t_set q4 hap hb _⟩ (fun j _ => ?_)⟩
    show _ = vp_V ((fs.set b u).map (am_v g)) j
    rw [List.map_set]
    exact vp_updV_set (by rw [List.length_map]; exact hl) _ j
  unfold u_lay at hlay
  by_cases hf : ((am_kd a).2.1 b).2.2.2 = true
  · rw [if_pos hf] at hlay
    have hfi : (am_y m).name = "<init>" ∧ ((am_kd a).2.1 b).1 = (am_y m).cls := by
      rcases hfin with q | q
      · rw [hf] at q; cases q
      · exact q
    have hcf : mid.cls = cf := by
      obtain ⟨_, _, c', _, _, _, -, -, hf', -, -, -, hown2, -⟩ := Cond.laysFinal_spec hlay
      have e9 : c' = cf := by have := hi.symm.trans hf'; simp at this; exact this.1.symm
      rw [hfi.2] at hown2
      rw [← e9]
      exact Option.some.inj (hown.symm.trans hown2)
    have h6 := u_fits hfc hkC hkind (Or.inr hlay) hi (am_tok a ha b hb) hnar hfit
    exact W.putFinK hx0 hb0 hown (am_word hts hw) hi hst hcf (hnm hfi.1) (by rw [q2]; exact h6) q1 q3 hslot rfl rfl hd cont
  · rw [if_neg hf] at hlay
    have h6 := u_store hfc hkC hkind hlay hi (am_tok a ha b hb) hnar hfit
    exact W.putK hx0 hb0 (f := f) ⟨hown, am_word hts hw, ⟨_, _, _, hi⟩, hst⟩ (by rw [q2]; exact h6) q1 q3 hslot rfl rfl hd cont
theorem am_iald {o n k8 : Nat} {f : Nat → Int32} {x : Int32} (h : am_op m i = some (.iaload, pc, a, b, v, ws)) (ho : M[o]? = some (.inl (0, n, .inl f))) (hx8 : x = nI k8) (hk : k8 < n) (hn8 : n < 2 ^ 31) (k : AW g d nc ns m (i + 1) L (.int (f k8) :: st) M K) : AW g d nc ns m i L (.int x :: .ref o :: st) M K := by
  obtain ⟨hd, hx⟩ := am_dec h
  have hn : am_pc m (i + 1) = am_pc m i + 1 := by simpa [am_cx] using hx
  subst hx8
  refine am_lift (fun C _ hH _ w => ?_) k
  rw [hn] at w
  refine va_iald C.1 C.2.1 (am_K1 (t := 0) (ty := .int) C.2.2.2.2.2.2.2.2.1 rfl trivial) (am_P1 hH ho) 0 0 rfl rfl (vp_in_nI hk hn8) hd ?_
  rw [nI_clamp (by omega)]
  exact w
theorem am_bald {o n k8 : Nat} {f : Nat → Int32} {x : Int32} (h : am_op m i = some (.baload, pc, a, b, v, ws)) (ho : M[o]? = some (.inl (1, n, .inl f))) (hx8 : x = nI k8) (hk : k8 < n) (hn8 : n < 2 ^ 31) (k : AW g d nc ns m (i + 1) L (.int (f k8) :: st) M K) : AW g d nc ns m i L (.int x :: .ref o :: st) M K := by
  obtain ⟨hd, hx⟩ := am_dec h
  have hn : am_pc m (i + 1) = am_pc m i + 1 := by simpa [am_cx] using hx
  subst hx8
  refine am_lift (fun C _ hH _ w => ?_) k
  rw [hn] at w
  refine va_zald C.1 C.2.1 (am_K1 (t := 1) (ty := .boolean) C.2.2.2.2.2.2.2.2.1 rfl trivial) (am_P1 hH ho) 0 0 rfl rfl (vp_in_nI hk hn8) hd ?_
  rw [nI_clamp (by omega)]
  exact w
/-- a row of an array of arrays, or an object out of an array -/
theorem am_aald {o n k8 t j : Nat} {f : Nat → Option Nat} {x : Int32} (h : am_op m i = some (.aaload, pc, a, b, v, ws)) (ho : M[o]? = some (.inl (t, n, .inr f))) (ht : t = 2 ∨ t = 3) (hx8 : x = nI k8) (hk : k8 < n) (hn8 : n < 2 ^ 31) (hj : f k8 = some j) (k : AW g d nc ns m (i + 1) L (.ref j :: st) M K) : AW g d nc ns m i L (.int x :: .ref o :: st) M K := by
  obtain ⟨hd, hx⟩ := am_dec h
  have hn : am_pc m (i + 1) = am_pc m i + 1 := by simpa [am_cx] using hx
  subst hx8
  refine am_lift (fun C _ hH _ w => ?_) k
  rw [hn] at w
  have hcell : _ = some (vp_cell _ _) := hH.2.1 o _ ho
  have hin : ¬ (nI k8 < 0 ∨ n ≤ (nI k8).toNatClampNeg) := vp_in_nI hk hn8
  have hv : (arrV (am_ac g t) n (fun j => va_rf ((f j).map (fun i => am_base g + i)))).slots[(nI k8).toNatClampNeg]? = some (.ref (am_base g + j)) := by
    rw [nI_clamp (by omega), arrV_read _ _ hk, hj]
    rfl
  rcases ht with rfl | rfl
  · exact W.aald (ty := .array .int) C.1 C.2.1 hcell ((C.2.2.2.2.2.2.2.2.1.2 2 _ rfl).1 n _) rfl (fun q => by cases q) (by show ¬ (_ ∨ (arrV _ _ _).slots.size ≤ _); rw [arrV_size]; exact hin) hv rfl rfl hd w
  · exact W.aald (ty := .object "RoundBench$Algorithm") C.1 C.2.1 hcell ((C.2.2.2.2.2.2.2.2.1.2 3 _ rfl).1 n _) rfl (fun q => by cases q) (by show ¬ (_ ∨ (arrV _ _ _).slots.size ≤ _); rw [arrV_size]; exact hin) hv rfl rfl hd w
theorem am_iast {o n k8 : Nat} {f : Nat → Int32} {x y : Int32} (h : am_op m i = some (.iastore, pc, a, b, v, ws)) (ho : M[o]? = some (.inl (0, n, .inl f))) (hx8 : x = nI k8) (hk : k8 < n) (hn8 : n < 2 ^ 31) (k : AW g d nc ns m (i + 1) L st (M.set o (.inl (0, n, .inl (upd f k8 y)))) K) : AW g d nc ns m i L (.int y :: .int x :: .ref o :: st) M K := by
  obtain ⟨hd, hx⟩ := am_dec h
  have hn : am_pc m (i + 1) = am_pc m i + 1 := by simpa [am_cx] using hx
  subst hx8
  intro p e R s mid args below meth c H locs cells slots Q ls C h1 h2 h3 h4 hH hS hL hQ
  have hcell : _ = some (vp_cell _ _) := hH.2.1 o _ ho
  refine W.iast C.1 C.2.1 hcell ((C.2.2.2.2.2.2.2.2.1.2 0 _ rfl).1 n _) (fun q => by cases q) (by show ¬ (_ ∨ (arrV _ _ _).slots.size ≤ _); rw [arrV_size]; exact vp_in_nI hk hn8) rfl rfl hd (fun H' g1 g2 g3 => ?_)
  have hp : W p g.1 e R s mid args below meth c H' (locs ++ [⟨am_base g + o, (nI k8).toNatClampNeg⟩]) cells slots Q (F0 mid (am_pc m (i + 1)) ls (st.map (am_v g))) := by
    refine k p e R s mid args below meth c H' _ cells slots Q ls C h1 h2 h3 h4 (hH.put ho ?_ g2 g3) (hS.put g2 g3 (Nat.le_add_right _ _)) hL hQ
    show H'[am_base g + o]? = some (vp_cell _ _)
    rw [g1, vp_cell_i]
    refine congrArg some ?_
    show (arrV _ _ _).setSlot _ _ = _
    rw [arrV_store, nI_clamp (by omega)]
    show arrV _ _ _ = arrV _ _ (fun j => Value.int (upd f k8 y j))
    refine congrArg (arrV _ _) (funext fun q => ?_)
    by_cases hq : q = k8
    · simp [updV, upd, hq]
    · simp [updV, upd, hq]
  rw [hn] at hp
  exact hp
theorem am_bast {o n k8 : Nat} {f : Nat → Int32} {x y : Int32} (h : am_op m i = some (.bastore, pc, a, b, v, ws)) (ho : M[o]? = some (.inl (1, n, .inl f))) (hx8 : x = nI k8) (hk : k8 < n) (hn8 : n < 2 ^ 31) (hy : y = 0 ∨ y = 1) (k : AW g d nc ns m (i + 1) L st (M.set o (.inl (1, n, .inl (upd f k8 y)))) K) : AW g d nc ns m i L (.int y :: .int x :: .ref o :: st) M K := by
  obtain ⟨hd, hx⟩ := am_dec h
  have hn : am_pc m (i + 1) = am_pc m i + 1 := by simpa [am_cx] using hx
  subst hx8
  intro p e R s mid args below meth c H locs cells slots Q ls C h1 h2 h3 h4 hH hS hL hQ
  have hcell : _ = some (vp_cell _ _) := hH.2.1 o _ ho
  have hy2 : narrow .boolean (.int y) = .int y := by rcases hy with rfl | rfl <;> rfl
  refine W.zast C.1 C.2.1 hcell ((C.2.2.2.2.2.2.2.2.1.2 1 _ rfl).1 n _) (fun q => by cases q) (by show ¬ (_ ∨ (arrV _ _ _).slots.size ≤ _); rw [arrV_size]; exact vp_in_nI hk hn8) rfl rfl hd (fun H' g1 g2 g3 => ?_)
  have hp : W p g.1 e R s mid args below meth c H' (locs ++ [⟨am_base g + o, (nI k8).toNatClampNeg⟩]) cells slots Q (F0 mid (am_pc m (i + 1)) ls (st.map (am_v g))) := by
    refine k p e R s mid args below meth c H' _ cells slots Q ls C h1 h2 h3 h4 (hH.put ho ?_ g2 g3) (hS.put g2 g3 (Nat.le_add_right _ _)) hL hQ
    show H'[am_base g + o]? = some (vp_cell _ _)
    rw [g1, vp_cell_i, hy2]
    refine congrArg some ?_
    show (arrV _ _ _).setSlot _ _ = _
    rw [arrV_store, nI_clamp (by omega)]
    show arrV _ _ _ = arrV _ _ (fun j => Value.int (upd f k8 y j))
    refine congrArg (arrV _ _) (funext fun q => ?_)
    by_cases hq : q = k8
    · simp [updV, upd, hq]
    · simp [updV, upd, hq]
  rw [hn] at hp
  exact hp
theorem am_alen {o n : Nat} {f : Nat → Int32} (h : am_op m i = some (.arraylength, pc, a, b, v, ws)) (ho : M[o]? = some (.inl (0, n, .inl f))) (k : AW g d nc ns m (i + 1) L (.int (nI n) :: st) M K) : AW g d nc ns m i L (.ref o :: st) M K := by
  obtain ⟨hd, hx⟩ := am_dec h
  have hn : am_pc m (i + 1) = am_pc m i + 1 := by simpa [am_cx] using hx
  refine am_lift (fun C _ hH _ w => ?_) k
  rw [hn] at w
  exact va_alen C.1 C.2.1 (am_K1 (t := 0) (ty := .int) C.2.2.2.2.2.2.2.2.1 rfl trivial) (am_P1 hH ho) 0 0 rfl rfl rfl hd w
theorem am_alen3 {o n : Nat} {f : Nat → Option Nat} (h : am_op m i = some (.arraylength, pc, a, b, v, ws)) (ho : M[o]? = some (.inl (3, n, .inr f))) (k : AW g d nc ns m (i + 1) L (.int (nI n) :: st) M K) : AW g d nc ns m i L (.ref o :: st) M K := by
  obtain ⟨hd, hx⟩ := am_dec h
  have hn : am_pc m (i + 1) = am_pc m i + 1 := by simpa [am_cx] using hx
  refine am_lift (fun C _ hH _ w => ?_) k
  rw [hn] at w
  have hcell : _ = some (vp_cell _ _) := hH.2.1 o _ ho
  exact W.alen (n := nI n) C.1 C.2.1 hcell ((C.2.2.2.2.2.2.2.2.1.2 3 _ rfl).1 n _) (by show (arrV _ _ _).slots.size.toInt32 = _; rw [arrV_size] <;> rfl) rfl rfl hd w
-- the script
theorem am_sald {z k8 : Nat} {x : Int32} (h : am_op m i = some (.iaload, pc, a, b, v, ws)) (hx8 : x = nI k8) (hk : k8 < am_sl g) (hn8 : am_sl g < 2 ^ 31) (k : AW g d nc ns m (i + 1) L (.int (am_sx g k8) :: st) M K) : AW g d nc ns m i L (.int x :: .retAddr z :: st) M K := by
  obtain ⟨hd, hx⟩ := am_dec h
  have hn : am_pc m (i + 1) = am_pc m i + 1 := by simpa [am_cx] using hx
  subst hx8
  refine am_lift (fun C _ hH hS w => ?_) k
  rw [hn] at w
  refine va_sld (A := am_A g) C.1 C.2.1 hH.2.2.1 (by have := hH.1; have := hH.2.2.2; omega) (by have := hH.2.2.2; unfold am_A; omega) ⟨Nat.le_refl _, fun _ _ _ => rfl, hS.2.2⟩ (vp_in_nI hk hn8) hd ?_
  rw [nI_clamp (by omega)]
  exact w
theorem am_slen {z : Nat} (h : am_op m i = some (.arraylength, pc, a, b, v, ws)) (k : AW g d nc ns m (i + 1) L (.int (nI (am_sl g)) :: st) M K) : AW g d nc ns m i L (.retAddr z :: st) M K := by
  obtain ⟨hd, hx⟩ := am_dec h
  have hn : am_pc m (i + 1) = am_pc m i + 1 := by simpa [am_cx] using hx
  refine am_lift (fun C _ hH hS w => ?_) k
  rw [hn] at w
  exact va_slen (A := am_A g) C.1 C.2.1 hH.2.2.1 (by have := hH.1; have := hH.2.2.2; omega) (by have := hH.2.2.2; unfold am_A; omega) ⟨Nat.le_refl _, fun _ _ _ => rfl, hS.2.2⟩ hd w
end AMH
