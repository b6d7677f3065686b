/-! rows of the abstract machine: stack, arithmetic, branches (written by a program) -/
section AMB
variable {g : am_G} {d nc ns m i : Nat} {L : am_L} {st : List Value} {M : am_M} {K : am_K} {pc a b : Nat} {v : Int32} {ws : List Nat}
theorem am_iadd {x y : Int32} (h : am_op m i = some (.iadd, pc, a, b, v, ws)) (k : AW g d nc ns m (i + 1) L (.int (x + y) :: st) M K) : AW g d nc ns m i L (.int y :: .int x :: st) M K := by
  obtain ⟨hd, hx⟩ := am_dec h
  have hn : am_pc m (i + 1) = am_pc m i + 1 := by simpa [am_cx] using hx
  refine am_lift (fun C _ _ _ w => ?_) k
  rw [hn] at w
  exact lv_iadd C.1 C.2.1 hd w
theorem am_isub {x y : Int32} (h : am_op m i = some (.isub, pc, a, b, v, ws)) (k : AW g d nc ns m (i + 1) L (.int (x - y) :: st) M K) : AW g d nc ns m i L (.int y :: .int x :: st) M K := by
  obtain ⟨hd, hx⟩ := am_dec h
  have hn : am_pc m (i + 1) = am_pc m i + 1 := by simpa [am_cx] using hx
  refine am_lift (fun C _ _ _ w => ?_) k
  rw [hn] at w
  exact lv_isub C.1 C.2.1 hd w
theorem am_imul {x y : Int32} (h : am_op m i = some (.imul, pc, a, b, v, ws)) (k : AW g d nc ns m (i + 1) L (.int (x * y) :: st) M K) : AW g d nc ns m i L (.int y :: .int x :: st) M K := by
  obtain ⟨hd, hx⟩ := am_dec h
  have hn : am_pc m (i + 1) = am_pc m i + 1 := by simpa [am_cx] using hx
  refine am_lift (fun C _ _ _ w => ?_) k
  rw [hn] at w
  exact lv_imul C.1 C.2.1 hd w
theorem am_iand {x y : Int32} (h : am_op m i = some (.iand, pc, a, b, v, ws)) (k : AW g d nc ns m (i + 1) L (.int (x &&& y) :: st) M K) : AW g d nc ns m i L (.int y :: .int x :: st) M K := by
  obtain ⟨hd, hx⟩ := am_dec h
  have hn : am_pc m (i + 1) = am_pc m i + 1 := by simpa [am_cx] using hx
  refine am_lift (fun C _ _ _ w => ?_) k
  rw [hn] at w
  exact lv_iand C.1 C.2.1 hd w
theorem am_ixor {x y : Int32} (h : am_op m i = some (.ixor, pc, a, b, v, ws)) (k : AW g d nc ns m (i + 1) L (.int (x ^^^ y) :: st) M K) : AW g d nc ns m i L (.int y :: .int x :: st) M K := by
  obtain ⟨hd, hx⟩ := am_dec h
  have hn : am_pc m (i + 1) = am_pc m i + 1 := by simpa [am_cx] using hx
  refine am_lift (fun C _ _ _ w => ?_) k
  rw [hn] at w
  exact lv_ixor C.1 C.2.1 hd w
theorem am_ishr {x y : Int32} (h : am_op m i = some (.ishr, pc, a, b, v, ws)) (k : AW g d nc ns m (i + 1) L (.int (x >>> (y &&& 31)) :: st) M K) : AW g d nc ns m i L (.int y :: .int x :: st) M K := by
  obtain ⟨hd, hx⟩ := am_dec h
  have hn : am_pc m (i + 1) = am_pc m i + 1 := by simpa [am_cx] using hx
  refine am_lift (fun C _ _ _ w => ?_) k
  rw [hn] at w
  exact lv_ishr C.1 C.2.1 hd w
theorem am_irem {x y : Int32} (h : am_op m i = some (.irem, pc, a, b, v, ws)) (hy : ¬ y = 0) (k : AW g d nc ns m (i + 1) L (.int (x - x / y * y) :: st) M K) : AW g d nc ns m i L (.int y :: .int x :: st) M K := by
  obtain ⟨hd, hx⟩ := am_dec h
  have hn : am_pc m (i + 1) = am_pc m i + 1 := by simpa [am_cx] using hx
  refine am_lift (fun C _ _ _ w => ?_) k
  rw [hn] at w
  exact lv_irem C.1 C.2.1 hd hy w
theorem am_dup {u : Value} (h : am_op m i = some (.dup, pc, a, b, v, ws)) (hu : u.category = 1) (k : AW g d nc ns m (i + 1) L (u :: u :: st) M K) : AW g d nc ns m i L (u :: st) M K := by
  obtain ⟨hd, hx⟩ := am_dec h
  have hn : am_pc m (i + 1) = am_pc m i + 1 := by simpa [am_cx] using hx
  refine am_lift (fun C _ _ _ w => ?_) k
  rw [hn] at w
  exact lv_dup C.1 C.2.1 hd (am_cat hu) w
theorem am_pop {u : Value} (h : am_op m i = some (.pop, pc, a, b, v, ws)) (hu : u.category = 1) (k : AW g d nc ns m (i + 1) L st M K) : AW g d nc ns m i L (u :: st) M K := by
  obtain ⟨hd, hx⟩ := am_dec h
  have hn : am_pc m (i + 1) = am_pc m i + 1 := by simpa [am_cx] using hx
  refine am_lift (fun C _ _ _ w => ?_) k
  rw [hn] at w
  exact lv_pop C.1 C.2.1 hd (am_cat hu) w
theorem am_dup2 {u w9 : Value} (h : am_op m i = some (.dup2, pc, a, b, v, ws)) (hu : u.category = 1) (hw : w9.category = 1) (k : AW g d nc ns m (i + 1) L (u :: w9 :: u :: w9 :: st) M K) : AW g d nc ns m i L (u :: w9 :: st) M K := by
  obtain ⟨hd, hx⟩ := am_dec h
  have hn : am_pc m (i + 1) = am_pc m i + 1 := by simpa [am_cx] using hx
  refine am_lift (fun C _ _ _ w => ?_) k
  rw [hn] at w
  exact lv_dup2_11 C.1 C.2.1 hd (am_cat hu) (am_cat hw) w
theorem am_goto {off : Int} (h : am_op m i = some (.goto off, pc, a, b, v, ws)) (k : AW g d nc ns m a L st M K) : AW g d nc ns m i L st M K := by
  obtain ⟨hd, hx⟩ := am_dec h
  have hn : ((am_pc m i : Nat) : Int) + off = ((am_pc m a : Nat) : Int) := by simpa [am_cx] using hx
  refine am_lift (fun C _ _ _ w => ?_) k
  exact lv_goto C.1 C.2.1 hd hn w
theorem am_if_eq {x : Int32} {off : Int} (h : am_op m i = some (.ifCond .eq off, pc, a, b, v, ws)) (kt : x = 0 → AW g d nc ns m a L st M K) (kf : ¬ x = 0 → AW g d nc ns m (i + 1) L st M K) : AW g d nc ns m i L (.int x :: st) M K := by
  obtain ⟨hd, hx⟩ := am_dec h
  simp only [am_cx, Bool.and_eq_true, beq_iff_eq, decide_eq_true_eq] at hx
  intro p e R s mid args below meth c H locs cells slots Q ls C h1 h2 h3 h4 hH hS hL hQ
  refine lv_if_eq C.1 C.2.1 hd hx.2 (fun q => ?_) (fun q => ?_)
  · exact kt q p e R s mid args below meth c H locs cells slots Q ls C h1 h2 h3 h4 hH hS hL hQ
  · rw [← hx.1]
    exact kf q p e R s mid args below meth c H locs cells slots Q ls C h1 h2 h3 h4 hH hS hL hQ
theorem am_icmp_eq {x y : Int32} {off : Int} (h : am_op m i = some (.if_icmp .eq off, pc, a, b, v, ws)) (kt : x = y → AW g d nc ns m a L st M K) (kf : ¬ x = y → AW g d nc ns m (i + 1) L st M K) : AW g d nc ns m i L (.int y :: .int x :: st) M K := by
  obtain ⟨hd, hx⟩ := am_dec h
  simp only [am_cx, Bool.and_eq_true, beq_iff_eq, decide_eq_true_eq] at hx
  intro p e R s mid args below meth c H locs cells slots Q ls C h1 h2 h3 h4 hH hS hL hQ
  refine lv_icmp_eq C.1 C.2.1 hd hx.2 (fun q => ?_) (fun q => ?_)
  · exact kt q p e R s mid args below meth c H locs cells slots Q ls C h1 h2 h3 h4 hH hS hL hQ
  · rw [← hx.1]
    exact kf q p e R s mid args below meth c H locs cells slots Q ls C h1 h2 h3 h4 hH hS hL hQ
theorem am_if_ne {x : Int32} {off : Int} (h : am_op m i = some (.ifCond .ne off, pc, a, b, v, ws)) (kt : ¬ x = 0 → AW g d nc ns m a L st M K) (kf : x = 0 → AW g d nc ns m (i + 1) L st M K) : AW g d nc ns m i L (.int x :: st) M K := by
  obtain ⟨hd, hx⟩ := am_dec h
  simp only [am_cx, Bool.and_eq_true, beq_iff_eq, decide_eq_true_eq] at hx
  intro p e R s mid args below meth c H locs cells slots Q ls C h1 h2 h3 h4 hH hS hL hQ
  refine lv_if_ne C.1 C.2.1 hd hx.2 (fun q => ?_) (fun q => ?_)
  · exact kt q p e R s mid args below meth c H locs cells slots Q ls C h1 h2 h3 h4 hH hS hL hQ
  · rw [← hx.1]
    exact kf q p e R s mid args below meth c H locs cells slots Q ls C h1 h2 h3 h4 hH hS hL hQ
theorem am_icmp_ne {x y : Int32} {off : Int} (h : am_op m i = some (.if_icmp .ne off, pc, a, b, v, ws)) (kt : ¬ x = y → AW g d nc ns m a L st M K) (kf : x = y → AW g d nc ns m (i + 1) L st M K) : AW g d nc ns m i L (.int y :: .int x :: st) M K := by
  obtain ⟨hd, hx⟩ := am_dec h
  simp only [am_cx, Bool.and_eq_true, beq_iff_eq, decide_eq_true_eq] at hx
  intro p e R s mid args below meth c H locs cells slots Q ls C h1 h2 h3 h4 hH hS hL hQ
  refine lv_icmp_ne C.1 C.2.1 hd hx.2 (fun q => ?_) (fun q => ?_)
  · exact kt q p e R s mid args below meth c H locs cells slots Q ls C h1 h2 h3 h4 hH hS hL hQ
  · rw [← hx.1]
    exact kf q p e R s mid args below meth c H locs cells slots Q ls C h1 h2 h3 h4 hH hS hL hQ
theorem am_if_lt {x : Int32} {off : Int} (h : am_op m i = some (.ifCond .lt off, pc, a, b, v, ws)) (kt : x < 0 → AW g d nc ns m a L st M K) (kf : ¬ x < 0 → AW g d nc ns m (i + 1) L st M K) : AW g d nc ns m i L (.int x :: st) M K := by
  obtain ⟨hd, hx⟩ := am_dec h
  simp only [am_cx, Bool.and_eq_true, beq_iff_eq, decide_eq_true_eq] at hx
  intro p e R s mid args below meth c H locs cells slots Q ls C h1 h2 h3 h4 hH hS hL hQ
  refine lv_if_lt C.1 C.2.1 hd hx.2 (fun q => ?_) (fun q => ?_)
  · exact kt q p e R s mid args below meth c H locs cells slots Q ls C h1 h2 h3 h4 hH hS hL hQ
  · rw [← hx.1]
    exact kf q p e R s mid args below meth c H locs cells slots Q ls C h1 h2 h3 h4 hH hS hL hQ
theorem am_icmp_lt {x y : Int32} {off : Int} (h : am_op m i = some (.if_icmp .lt off, pc, a, b, v, ws)) (kt : x < y → AW g d nc ns m a L st M K) (kf : ¬ x < y → AW g d nc ns m (i + 1) L st M K) : AW g d nc ns m i L (.int y :: .int x :: st) M K := by
  obtain ⟨hd, hx⟩ := am_dec h
  simp only [am_cx, Bool.and_eq_true, beq_iff_eq, decide_eq_true_eq] at hx
  intro p e R s mid args below meth c H locs cells slots Q ls C h1 h2 h3 h4 hH hS hL hQ
  refine lv_icmp_lt C.1 C.2.1 hd hx.2 (fun q => ?_) (fun q => ?_)
  · exact kt q p e R s mid args below meth c H locs cells slots Q ls C h1 h2 h3 h4 hH hS hL hQ
  · rw [← hx.1]
    exact kf q p e R s mid args below meth c H locs cells slots Q ls C h1 h2 h3 h4 hH hS hL hQ
theorem am_if_ge {x : Int32} {off : Int} (h : am_op m i = some (.ifCond .ge off, pc, a, b, v, ws)) (kt : 0 ≤ x → AW g d nc ns m a L st M K) (kf : ¬ 0 ≤ x → AW g d nc ns m (i + 1) L st M K) : AW g d nc ns m i L (.int x :: st) M K := by
  obtain ⟨hd, hx⟩ := am_dec h
  simp only [am_cx, Bool.and_eq_true, beq_iff_eq, decide_eq_true_eq] at hx
  intro p e R s mid args below meth c H locs cells slots Q ls C h1 h2 h3 h4 hH hS hL hQ
  refine lv_if_ge C.1 C.2.1 hd hx.2 (fun q => ?_) (fun q => ?_)
  · exact kt q p e R s mid args below meth c H locs cells slots Q ls C h1 h2 h3 h4 hH hS hL hQ
  · rw [← hx.1]
    exact kf q p e R s mid args below meth c H locs cells slots Q ls C h1 h2 h3 h4 hH hS hL hQ
theorem am_icmp_ge {x y : Int32} {off : Int} (h : am_op m i = some (.if_icmp .ge off, pc, a, b, v, ws)) (kt : y ≤ x → AW g d nc ns m a L st M K) (kf : ¬ y ≤ x → AW g d nc ns m (i + 1) L st M K) : AW g d nc ns m i L (.int y :: .int x :: st) M K := by
  obtain ⟨hd, hx⟩ := am_dec h
  simp only [am_cx, Bool.and_eq_true, beq_iff_eq, decide_eq_true_eq] at hx
  intro p e R s mid args below meth c H locs cells slots Q ls C h1 h2 h3 h4 hH hS hL hQ
  refine lv_icmp_ge C.1 C.2.1 hd hx.2 (fun q => ?_) (fun q => ?_)
  · exact kt q p e R s mid args below meth c H locs cells slots Q ls C h1 h2 h3 h4 hH hS hL hQ
  · rw [← hx.1]
    exact kf q p e R s mid args below meth c H locs cells slots Q ls C h1 h2 h3 h4 hH hS hL hQ
theorem am_if_gt {x : Int32} {off : Int} (h : am_op m i = some (.ifCond .gt off, pc, a, b, v, ws)) (kt : 0 < x → AW g d nc ns m a L st M K) (kf : ¬ 0 < x → AW g d nc ns m (i + 1) L st M K) : AW g d nc ns m i L (.int x :: st) M K := by
  obtain ⟨hd, hx⟩ := am_dec h
  simp only [am_cx, Bool.and_eq_true, beq_iff_eq, decide_eq_true_eq] at hx
  intro p e R s mid args below meth c H locs cells slots Q ls C h1 h2 h3 h4 hH hS hL hQ
  refine lv_if_gt C.1 C.2.1 hd hx.2 (fun q => ?_) (fun q => ?_)
  · exact kt q p e R s mid args below meth c H locs cells slots Q ls C h1 h2 h3 h4 hH hS hL hQ
  · rw [← hx.1]
    exact kf q p e R s mid args below meth c H locs cells slots Q ls C h1 h2 h3 h4 hH hS hL hQ
theorem am_icmp_gt {x y : Int32} {off : Int} (h : am_op m i = some (.if_icmp .gt off, pc, a, b, v, ws)) (kt : y < x → AW g d nc ns m a L st M K) (kf : ¬ y < x → AW g d nc ns m (i + 1) L st M K) : AW g d nc ns m i L (.int y :: .int x :: st) M K := by
  obtain ⟨hd, hx⟩ := am_dec h
  simp only [am_cx, Bool.and_eq_true, beq_iff_eq, decide_eq_true_eq] at hx
  intro p e R s mid args below meth c H locs cells slots Q ls C h1 h2 h3 h4 hH hS hL hQ
  refine lv_icmp_gt C.1 C.2.1 hd hx.2 (fun q => ?_) (fun q => ?_)
  · exact kt q p e R s mid args below meth c H locs cells slots Q ls C h1 h2 h3 h4 hH hS hL hQ
  · rw [← hx.1]
    exact kf q p e R s mid args below meth c H locs cells slots Q ls C h1 h2 h3 h4 hH hS hL hQ
theorem am_if_le {x : Int32} {off : Int} (h : am_op m i = some (.ifCond .le off, pc, a, b, v, ws)) (kt : x ≤ 0 → AW g d nc ns m a L st M K) (kf : ¬ x ≤ 0 → AW g d nc ns m (i + 1) L st M K) : AW g d nc ns m i L (.int x :: st) M K := by
  obtain ⟨hd, hx⟩ := am_dec h
  simp only [am_cx, Bool.and_eq_true, beq_iff_eq, decide_eq_true_eq] at hx
  intro p e R s mid args below meth c H locs cells slots Q ls C h1 h2 h3 h4 hH hS hL hQ
  refine lv_if_le C.1 C.2.1 hd hx.2 (fun q => ?_) (fun q => ?_)
  · exact kt q p e R s mid args below meth c H locs cells slots Q ls C h1 h2 h3 h4 hH hS hL hQ
  · rw [← hx.1]
    exact kf q p e R s mid args below meth c H locs cells slots Q ls C h1 h2 h3 h4 hH hS hL hQ
theorem am_icmp_le {x y : Int32} {off : Int} (h : am_op m i = some (.if_icmp .le off, pc, a, b, v, ws)) (kt : x ≤ y → AW g d nc ns m a L st M K) (kf : ¬ x ≤ y → AW g d nc ns m (i + 1) L st M K) : AW g d nc ns m i L (.int y :: .int x :: st) M K := by
  obtain ⟨hd, hx⟩ := am_dec h
  simp only [am_cx, Bool.and_eq_true, beq_iff_eq, decide_eq_true_eq] at hx
  intro p e R s mid args below meth c H locs cells slots Q ls C h1 h2 h3 h4 hH hS hL hQ
  refine lv_icmp_le C.1 C.2.1 hd hx.2 (fun q => ?_) (fun q => ?_)
  · exact kt q p e R s mid args below meth c H locs cells slots Q ls C h1 h2 h3 h4 hH hS hL hQ
  · rw [← hx.1]
    exact kf q p e R s mid args below meth c H locs cells slots Q ls C h1 h2 h3 h4 hH hS hL hQ
theorem am_ifnull_r {o9 : Nat} {off : Int} (h : am_op m i = some (.ifnull off, pc, a, b, v, ws)) (k : AW g d nc ns m (i + 1) L st M K) : AW g d nc ns m i L (.ref o9 :: st) M K := by
  obtain ⟨hd, hx⟩ := am_dec h
  simp only [am_cx, Bool.and_eq_true, beq_iff_eq, decide_eq_true_eq] at hx
  refine am_lift (fun C _ _ _ w => ?_) k
  rw [hx.1] at w
  exact lv_ifnull C.1 C.2.1 hd w
theorem am_ifnull_n {off : Int} (h : am_op m i = some (.ifnull off, pc, a, b, v, ws)) (k : AW g d nc ns m a L st M K) : AW g d nc ns m i L (.null :: st) M K := by
  obtain ⟨hd, hx⟩ := am_dec h
  simp only [am_cx, Bool.and_eq_true, beq_iff_eq, decide_eq_true_eq] at hx
  refine am_lift (fun C _ _ _ w => ?_) k
  exact lv_ifnullN C.1 C.2.1 hd hx.2 w
theorem am_ifnonnull_r {o9 : Nat} {off : Int} (h : am_op m i = some (.ifnonnull off, pc, a, b, v, ws)) (k : AW g d nc ns m a L st M K) : AW g d nc ns m i L (.ref o9 :: st) M K := by
  obtain ⟨hd, hx⟩ := am_dec h
  simp only [am_cx, Bool.and_eq_true, beq_iff_eq, decide_eq_true_eq] at hx
  refine am_lift (fun C _ _ _ w => ?_) k
  exact lv_ifnonnull C.1 C.2.1 hd hx.2 w
theorem am_ifnonnull_n {off : Int} (h : am_op m i = some (.ifnonnull off, pc, a, b, v, ws)) (k : AW g d nc ns m (i + 1) L st M K) : AW g d nc ns m i L (.null :: st) M K := by
  obtain ⟨hd, hx⟩ := am_dec h
  simp only [am_cx, Bool.and_eq_true, beq_iff_eq, decide_eq_true_eq] at hx
  refine am_lift (fun C _ _ _ w => ?_) k
  rw [hx.1] at w
  exact lv_ifnonnullN C.1 C.2.1 hd w
theorem am_ireturn {x : Int32} (h : am_op m i = some (.ireturn, pc, a, b, v, ws)) (hr : am_r m = some .boolean → x = 0 ∨ x = 1) (k : K (some (.int x)) M) : AW g d nc ns m i L [.int x] M K := by
  obtain ⟨hd, hx⟩ := am_dec h
  simp only [am_cx, Bool.or_eq_true, decide_eq_true_eq] at hx
  intro p e R s mid args below meth c H locs cells slots Q ls C h1 h2 h3 h4 hH hS hL hQ
  exact hQ (some (.int x)) M H locs cells slots i ls k hH hS (by omega) (by omega) ⟨hd, hx.elim Or.inl (fun q => Or.inr ⟨q, hr q⟩)⟩
theorem am_return (h : am_op m i = some (.return_, pc, a, b, v, ws)) (k : K none M) : AW g d nc ns m i L [] M K := by
  obtain ⟨hd, hx⟩ := am_dec h
  simp only [am_cx, decide_eq_true_eq] at hx
  intro p e R s mid args below meth c H locs cells slots Q ls C h1 h2 h3 h4 hH hS hL hQ
  exact hQ none M H locs cells slots i ls k hH hS (by omega) (by omega) ⟨hd, hx⟩
end AMB
