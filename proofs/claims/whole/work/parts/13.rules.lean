/-! calls without room for new cells, and what is seen of them by evaluation -/
def am_okm (a : Nat) : Bool := plainName (am_y a).cls && (am_pc a 0 == 0) && decide (am_mL a ≤ 21)
set_option maxRecDepth 100000 in
theorem am_okms : ((List.range 146).all fun a => (Nat.beq a 2 || Nat.beq a 98) || am_okm a) = true := by decide +kernel
/-- the numbers of the methods, Object's own constructor and Math.min apart -/
def am_in (a : Nat) : Bool := Nat.blt a 146 && !(Nat.beq a 2 || Nat.beq a 98)
def am_okd (a b : Nat) (as st : List Value) : Bool := Nat.beq as.length b && Nat.ble as.length (am_mL a) && as.all (fun v => Nat.beq v.category 1) && Nat.ble ((st.map fun v => v.category).sum) 8
theorem am_okc_of {a b : Nat} {as st : List Value} (ha : am_in a = true) (h : am_okd a b as st = true) : am_okc a b as st = true := by
  unfold am_in at ha
  rw [Bool.and_eq_true, Bool.not_eq_true'] at ha
  have h1 := List.all_eq_true.mp am_okms a (List.mem_range.mpr (by simpa [Nat.blt_eq] using ha.1))
  rw [ha.2, Bool.false_or] at h1
  unfold am_okm at h1
  unfold am_okd at h
  unfold am_okc
  simp only [Bool.and_eq_true, beq_iff_eq, decide_eq_true_eq, Nat.ble_eq, List.all_eq_true] at h h1 ⊢
  exact ⟨⟨⟨⟨⟨⟨h1.1.1, h1.1.2⟩, Nat.eq_of_beq_eq_true h.1.1.1⟩, by omega⟩, h1.2⟩, fun v hv => Nat.eq_of_beq_eq_true (h.1.2 v hv)⟩, h.2⟩
/-- the answer and the cells behind a method, told exactly -/
def am_is (r0 : Option Value) (M0 : am_M) : am_K := fun r M => r = r0 ∧ M = M0
section AMQ
variable {g : am_G} {d m i : Nat} {L : am_L} {st stk : List Value} {M M0 : am_M} {K K' : am_K} {pc a b : Nat} {v : Int32} {ws : List Nat} {r0 : Option Value}
theorem am_V {k9 o ci : Nat} {fs : List Value} (as : List Value) (h : am_op m i = some (.invokevirtual k9, pc, a, b, 0, ws)) (hst : stk = as.reverse ++ .ref o :: st) (ho : M[o]? = some (.inr (ci, fs))) (hci : am_cl[ci]? = some ((am_y a).cls, (am_kd ci).2.1, (am_kd ci).2.2)) (ha : am_in a = true) (hok : am_okd a (b + 1) (.ref o :: as) st = true)
    (kc : AW g d 0 0 a 0 (am_L0 a (.ref o :: as)) [] M K') (kk : ∀ (r : Option Value) (M' : am_M), K' r M' → am_rk r → AW g (d + 1) 0 0 m (i + 1) L (r.toList ++ st) M' K) : AW g (d + 1) 0 0 m i L stk M K := am_cV (nc := 0) (ns := 0) (nc' := 0) (ns' := 0) as h hst ho hci (am_okc_of ha hok) kc kk
theorem am_A5 {k9 o ci f : Nat} {fs : List Value} {ws2 : List Nat} (as : List Value) (h : am_op m i = some (.invokevirtual k9, pc, a, b, 1, ws)) (hst : stk = as.reverse ++ .ref o :: st) (ho : M[o]? = some (.inr (ci, fs))) (hva : am_va a ci = some (f, ws2)) (ha5 : Nat.blt a 5 = true) (hc12 : Nat.blt ci 12 = true) (ha : am_in f = true) (hok : am_okd f (b + 1) (.ref o :: as) st = true)
    (kc : AW g d 0 0 f 0 (am_L0 f (.ref o :: as)) [] M K') (kk : ∀ (r : Option Value) (M' : am_M), K' r M' → am_rk r → AW g (d + 1) 0 0 m (i + 1) L (r.toList ++ st) M' K) : AW g (d + 1) 0 0 m i L stk M K := am_cA (nc := 0) (ns := 0) (nc' := 0) (ns' := 0) as h hst ho hva (by simpa [Nat.blt_eq] using ha5) (by simpa [Nat.blt_eq] using hc12) (am_okc_of ha hok) kc kk
theorem am_S {k9 : Nat} (as : List Value) (h : am_op m i = some (.invokestatic k9, pc, a, b, 0, ws)) (hst : stk = as.reverse ++ st) (ha : am_in a = true) (hok : am_okd a b as st = true)
    (kc : AW g d 0 0 a 0 (am_L0 a as) [] M K') (kk : ∀ (r : Option Value) (M' : am_M), K' r M' → am_rk r → AW g (d + 1) 0 0 m (i + 1) L (r.toList ++ st) M' K) : AW g (d + 1) 0 0 m i L stk M K := am_cS (nc := 0) (ns := 0) (nc' := 0) (ns' := 0) as h hst (am_okc_of ha hok) kc kk
/-- the same, where the answer and the cells are told exactly -/
theorem am_Vx {k9 o ci : Nat} {fs : List Value} (as : List Value) (h : am_op m i = some (.invokevirtual k9, pc, a, b, 0, ws)) (hst : stk = as.reverse ++ .ref o :: st) (ho : M[o]? = some (.inr (ci, fs))) (hci : am_cl[ci]? = some ((am_y a).cls, (am_kd ci).2.1, (am_kd ci).2.2)) (ha : am_in a = true) (hok : am_okd a (b + 1) (.ref o :: as) st = true)
    (kc : AW g d 0 0 a 0 (am_L0 a (.ref o :: as)) [] M (am_is r0 M0)) (kk : AW g (d + 1) 0 0 m (i + 1) L (r0.toList ++ st) M0 K) : AW g (d + 1) 0 0 m i L stk M K := am_V as h hst ho hci ha hok kc (by rintro _ _ ⟨rfl, rfl⟩ _; exact kk)
theorem am_Ax {k9 o ci f : Nat} {fs : List Value} {ws2 : List Nat} (as : List Value) (h : am_op m i = some (.invokevirtual k9, pc, a, b, 1, ws)) (hst : stk = as.reverse ++ .ref o :: st) (ho : M[o]? = some (.inr (ci, fs))) (hva : am_va a ci = some (f, ws2)) (ha5 : Nat.blt a 5 = true) (hc12 : Nat.blt ci 12 = true) (ha : am_in f = true) (hok : am_okd f (b + 1) (.ref o :: as) st = true)
    (kc : AW g d 0 0 f 0 (am_L0 f (.ref o :: as)) [] M (am_is r0 M0)) (kk : AW g (d + 1) 0 0 m (i + 1) L (r0.toList ++ st) M0 K) : AW g (d + 1) 0 0 m i L stk M K := am_A5 as h hst ho hva ha5 hc12 ha hok kc (by rintro _ _ ⟨rfl, rfl⟩ _; exact kk)
theorem am_Sx {k9 : Nat} (as : List Value) (h : am_op m i = some (.invokestatic k9, pc, a, b, 0, ws)) (hst : stk = as.reverse ++ st) (ha : am_in a = true) (hok : am_okd a b as st = true)
    (kc : AW g d 0 0 a 0 (am_L0 a as) [] M (am_is r0 M0)) (kk : AW g (d + 1) 0 0 m (i + 1) L (r0.toList ++ st) M0 K) : AW g (d + 1) 0 0 m i L stk M K := am_S as h hst ha hok kc (by rintro _ _ ⟨rfl, rfl⟩ _; exact kk)
end AMQ
theorem am_minc : (98 : Nat) < 146 ∧ am_y 98 = Lib.Math.min.name ∧ am_b 98 = Lib.Math.min.code ∧ am_mL 98 = 2 ∧ am_r 98 = some .int := ⟨by decide, by decide +kernel, by decide +kernel, by decide +kernel, by decide +kernel⟩
/-- Math.min -/
theorem am_min {g : am_G} {d m i : Nat} {L : am_L} {st : List Value} {M : am_M} {K : am_K} {pc b : Nat} {ws : List Nat} {k9 : Nat} {x y : Int32} (h : am_op m i = some (.invokestatic k9, pc, 98, b, 0, ws)) (hs8 : (st.map fun v => v.category).sum ≤ 8) (k : AW g (d + 1) 0 0 m (i + 1) L (.int (if y < x then y else x) :: st) M K) : AW g (d + 1) 0 0 m i L (.int y :: .int x :: st) M K := by
  obtain ⟨hd, hx⟩ := am_dec h
  simp only [am_cx, Bool.and_eq_true, beq_iff_eq, if_neg (show ¬ (0 : Int32) = 2 by decide)] at hx
  obtain ⟨hn, ⟨⟨⟨⟨w0, w1⟩, w3⟩, w4⟩, w5⟩, w6⟩ := hx
  obtain ⟨-, e1, e2, e3, e4⟩ := am_minc
  rw [e1] at w0 w1 w3 w4
  rw [e2, e3, e4] at w4
  intro p e R s mid args below meth c H locs cells slots Q ls C h1 h2 h3 h4 hH hS hL hQ
  obtain ⟨hx0, hb0, -, hml, hown, -, -, hts, hSy, -⟩ := id C
  have fin := k p e R s mid args below meth c H locs cells slots Q ls C h1 h2 h3 h4 hH hS hL hQ
  rw [hn] at fin
  exact va_mmin hx0 hb0 (by rw [hml, hL.1]) hown (am_word hts w0) (am_word hts w1) (am_word hts w3) (am_word hts w4) (by omega) (by rw [am_stc]; omega) (by omega) (by omega) hd fin
/-! THE CELLS of the run: 0 RoundBench, 1 Course, 2 Net, 3 identities, 4 weights, 5 edgeBetween (rows 6 .. 17), 18 far, 19 held (rows 20 .. 22), 23 before (rows 24 .. 26), 27 fresh, 28 parents, 29 algorithms, 30 .. 37 the eight; 38 RoundBenchModel, 39 first, 40 second, 41 weights, 42 identities, 43 far, 44 parents, 45 heights, 46 ends, 47 whens, 48 sums, 49 colours, 50 before. S k j: the j-th int of cell k (a field's by its place); ch: which is chosen. -/
def am_ch (ch : Option Nat) : Value := match ch with
  | none => .null
  | some k => .ref (30 + k)
abbrev am_S0 : Type := Nat → Nat → Int32
def mem (ch : Option Nat) (S : am_S0) : am_M := [
  .inr (0, [.ref 1, .ref 29, am_ch ch, .int (S 0 3)]),
  .inr (1, [.ref 2, .ref 19, .ref 23, .ref 27, .ref 28, .int (S 1 5), .int (S 1 6), .int (S 1 7)]),
  .inr (2, [.ref 3, .ref 4, .ref 5, .ref 18, .int (S 2 4), .int (S 2 5)]),
  .inl (0, 12, .inl (S 3)), .inl (0, 24, .inl (S 4)), .inl (2, 12, .inr fun j => if j < 12 then some (6 + j) else none),
  .inl (0, 12, .inl (S 6)), .inl (0, 12, .inl (S 7)), .inl (0, 12, .inl (S 8)), .inl (0, 12, .inl (S 9)), .inl (0, 12, .inl (S 10)), .inl (0, 12, .inl (S 11)), .inl (0, 12, .inl (S 12)), .inl (0, 12, .inl (S 13)), .inl (0, 12, .inl (S 14)), .inl (0, 12, .inl (S 15)), .inl (0, 12, .inl (S 16)), .inl (0, 12, .inl (S 17)),
  .inl (0, 12, .inl (S 18)), .inl (2, 3, .inr fun j => if j < 3 then some (20 + j) else none), .inl (0, 12, .inl (S 20)), .inl (0, 12, .inl (S 21)), .inl (0, 12, .inl (S 22)),
  .inl (2, 3, .inr fun j => if j < 3 then some (24 + j) else none), .inl (0, 12, .inl (S 24)), .inl (0, 12, .inl (S 25)), .inl (0, 12, .inl (S 26)), .inl (1, 12, .inl (S 27)), .inl (0, 12, .inl (S 28)),
  .inl (3, 8, .inr fun j => if j < 8 then some (30 + j) else none), .inr (3, []), .inr (4, []), .inr (5, []), .inr (6, []), .inr (7, []), .inr (8, []), .inr (9, []), .inr (10, []),
  .inr (11, [.int (S 38 0), .int (S 38 1), .ref 39, .ref 40, .ref 41, .ref 42, .int (S 38 6), .ref 43, .int (S 38 8), .int (S 38 9), .int (S 38 10), .int (S 38 11), .ref 44, .ref 45, .ref 46, .ref 47, .ref 48, .ref 49, .ref 50]),
  .inl (0, 24, .inl (S 39)), .inl (0, 24, .inl (S 40)), .inl (0, 24, .inl (S 41)), .inl (0, 12, .inl (S 42)), .inl (0, 144, .inl (S 43)), .inl (0, 12, .inl (S 44)), .inl (0, 12, .inl (S 45)), .inl (0, 12, .inl (S 46)), .inl (0, 12, .inl (S 47)), .inl (0, 168, .inl (S 48)), .inl (0, 12, .inl (S 49)), .inl (0, 12, .inl (S 50))]
/-- cell k's ints become f -/
def am_up (S : am_S0) (k : Nat) (f : Nat → Int32) : am_S0 := fun j => if j = k then f else S j
/-- the v-th row of a grid -/
theorem mem_eb {ch : Option Nat} {S : am_S0} : ∀ v : Nat, v < 12 → (mem ch S)[6 + v]? = some (.inl (0, 12, .inl (S (6 + v))))
  | 0, _ | 1, _ | 2, _ | 3, _ | 4, _ | 5, _ | 6, _ | 7, _ | 8, _ | 9, _ | 10, _ | 11, _ => rfl
  | n + 12, h => absurd h (by omega)
theorem mem_eb_set {ch : Option Nat} {S : am_S0} {f : Nat → Int32} : ∀ v : Nat, v < 12 → (mem ch S).set (6 + v) (.inl (0, 12, .inl f)) = mem ch (am_up S (6 + v) f)
  | 0, _ | 1, _ | 2, _ | 3, _ | 4, _ | 5, _ | 6, _ | 7, _ | 8, _ | 9, _ | 10, _ | 11, _ => rfl
  | n + 12, h => absurd h (by omega)
theorem mem_he {ch : Option Nat} {S : am_S0} : ∀ v : Nat, v < 3 → (mem ch S)[20 + v]? = some (.inl (0, 12, .inl (S (20 + v))))
  | 0, _ | 1, _ | 2, _ => rfl
  | n + 3, h => absurd h (by omega)
theorem mem_he_set {ch : Option Nat} {S : am_S0} {f : Nat → Int32} : ∀ v : Nat, v < 3 → (mem ch S).set (20 + v) (.inl (0, 12, .inl f)) = mem ch (am_up S (20 + v) f)
  | 0, _ | 1, _ | 2, _ => rfl
  | n + 3, h => absurd h (by omega)
theorem mem_be {ch : Option Nat} {S : am_S0} : ∀ v : Nat, v < 3 → (mem ch S)[24 + v]? = some (.inl (0, 12, .inl (S (24 + v))))
  | 0, _ | 1, _ | 2, _ => rfl
  | n + 3, h => absurd h (by omega)
theorem mem_be_set {ch : Option Nat} {S : am_S0} {f : Nat → Int32} : ∀ v : Nat, v < 3 → (mem ch S).set (24 + v) (.inl (0, 12, .inl f)) = mem ch (am_up S (24 + v) f)
  | 0, _ | 1, _ | 2, _ => rfl
  | n + 3, h => absurd h (by omega)
theorem mem_al {ch : Option Nat} {S : am_S0} : ∀ v : Nat, v < 8 → (mem ch S)[30 + v]? = some (.inr (3 + v, []))
  | 0, _ | 1, _ | 2, _ | 3, _ | 4, _ | 5, _ | 6, _ | 7, _ => rfl
  | n + 8, h => absurd h (by omega)
