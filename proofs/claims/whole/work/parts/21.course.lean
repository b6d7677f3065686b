/-! the class: Course -/
/-- the first n places become F -/
def pw (n : Nat) (F f : Nat → Int32) : Nat → Int32 := fun j => if j < n then F j else f j
theorem pw_0 (F f : Nat → Int32) : pw 0 F f = f := rfl
theorem pw_s (n : Nat) (F f : Nat → Int32) : upd (pw n F f) n (F n) = pw (n + 1) F f := by
  funext j
  unfold upd pw
  by_cases h : j = n
  · rw [if_pos h, if_pos (by omega), h]
  · rw [if_neg h]
    by_cases h2 : j < n
    · rw [if_pos h2, if_pos (by omega)]
    · rw [if_neg h2, if_neg (by omega)]
theorem pw_lt {n j : Nat} {F f : Nat → Int32} (h : j < n) : pw n F f j = F j := if_pos h
theorem pw_ge {n j : Nat} {F f : Nat → Int32} (h : n ≤ j) : pw n F f j = f j := if_neg (Nat.not_lt.mpr h)
theorem cpy_pw (n : Nat) (F f : Nat → Int32) : va_cpy F f 0 0 n = pw n F f := by
  funext j
  unfold va_cpy pw
  by_cases h : j < n
  · rw [if_pos ⟨Nat.zero_le _, by omega⟩, if_pos h, Nat.zero_add, Nat.sub_zero]
  · rw [if_neg (by omega), if_neg h]
theorem fil_pw (n : Nat) (x : Int32) (f : Nat → Int32) : fil n x f = pw n (fun _ => x) f := rfl
def sm (f : Nat → Nat) : Nat → Nat
  | 0 => 0
  | n + 1 => sm f n + f n
def deg (E : Nat → Nat → Option Nat) (n v : Nat) : Nat := cnt (fun u => (E v u).isSome) n
section CCRS
variable {g : am_G} {d : Nat} {ch : Option Nat} {S : am_S0} {n : Nat} {E : Nat → Nat → Option Nat}
/-- setFresh(b) -/
theorem s_setFresh (x : Int32) (hx : x = 0 ∨ x = 1) : AW g d 0 0 39 0 (am_L0 39 [.ref 1, .int x]) [] (mem ch S) (am_is none (mem ch (am_up S 27 (pw 12 (fun _ => x) (S 27))))) := by
  refine am_iconst rfl ?_
  refine am_istore_n rfl ?_
  refine am_Meq (M' := mem ch (am_up S 27 (pw 0 (fun _ => x) (S 27)))) (by rw [pw_0, am_up_self]) ?_
  refine am_for (12) (fun v => [some (.ref 1), some (.int x), some (.int (nI v))]) (fun v => mem ch (am_up S 27 (pw v (fun _ => x) (S 27)))) (fun v hv k => ?_) ?_ 12 0 (by omega)
  · refine am_iload_n rfl rfl ?_
    refine am_bipush rfl ?_
    refine am_icmp_ge rfl (fun h => absurd h (nI_ge hv (by decide))) (fun _ => ?_)
    refine am_aload_n rfl rfl rfl ?_
    refine am_get rfl rfl rfl ?_
    refine am_iload_n rfl rfl ?_
    refine am_iload_n rfl rfl ?_
    refine am_bast rfl rfl rfl hv (by decide) hx ?_
    refine am_Meq (M' := mem ch (am_up S 27 (pw (v + 1) (fun _ => x) (S 27)))) ?_ ?_
    · show mem ch (am_up (am_up S 27 (pw v (fun _ => x) (S 27))) 27 (upd (pw v (fun _ => x) (S 27)) v x)) = _
      rw [am_up_up]
      exact congrArg (fun q => mem ch (am_up S 27 q)) (pw_s v (fun _ => x) (S 27))
    refine am_iinc rfl rfl ?_
    refine am_goto rfl ?_
    simp only [nI_succ] at k
    exact k
  · refine am_iload_n rfl rfl ?_
    refine am_bipush rfl ?_
    refine am_icmp_ge rfl (fun _ => ?_) (fun h => absurd (nI_le (Nat.le_refl 12) (by decide)) h)
    exact am_return rfl ⟨rfl, rfl⟩
/-- reset(root) -/
def rst (S : am_S0) (x : Int32) : am_S0 := am_up (am_up S 1 (upd (upd (upd (S 1) 5 x) 6 0) 7 0)) 27 (pw 12 (fun _ => 0) (S 27))
theorem s_reset (x : Int32) : AW g (d + 1) 0 0 38 0 (am_L0 38 [.ref 1, .int x]) [] (mem ch S) (am_is none (mem ch (rst S x))) := by
  refine am_aload_n rfl rfl rfl ?_
  refine am_iload_n rfl rfl ?_
  refine am_put rfl rfl (Nat.le_of_ble_eq_true rfl) rfl ?_
  refine am_aload_n rfl rfl rfl ?_
  refine am_iconst rfl ?_
  refine am_put rfl rfl (Nat.le_of_ble_eq_true rfl) rfl ?_
  refine am_aload_n rfl rfl rfl ?_
  refine am_iconst rfl ?_
  refine am_put rfl rfl (Nat.le_of_ble_eq_true rfl) rfl ?_
  refine am_aload_n rfl rfl rfl ?_
  refine am_iconst rfl ?_
  refine am_Meq (M' := mem ch (am_up S 1 (upd (upd (upd (S 1) 5 x) 6 0) 7 0))) rfl ?_
  refine am_Vx [.int 0] rfl rfl rfl rfl rfl rfl (s_setFresh (d := d) 0 (Or.inl rfl)) ?_
  exact am_return rfl ⟨rfl, rfl⟩
/-- holdEverywhere(x, y, z) -/
def hld (S : am_S0) (x y z : Int32) : am_S0 := am_up (am_up (am_up S 20 (pw 12 (fun _ => x) (S 20))) 21 (pw 12 (fun _ => y) (S 21))) 22 (pw 12 (fun _ => z) (S 22))
theorem s_holdE (x y z : Int32) : AW g (d + 1) 0 0 41 0 (am_L0 41 [.ref 1, .int x, .int y, .int z]) [] (mem ch S) (am_is none (mem ch (hld S x y z))) := by
  refine am_aload_n rfl rfl rfl ?_
  refine am_get rfl rfl rfl ?_
  refine am_iconst rfl ?_
  refine am_aald (k8 := 0) rfl rfl (Or.inl rfl) rfl (by decide) (by decide) rfl ?_
  refine am_iload_n rfl rfl ?_
  refine am_Sx [.ref 20, .int x] rfl rfl rfl rfl (s_fill (d := d) rfl (by decide) x) ?_
  refine am_Meq (M' := mem ch (am_up S 20 (pw 12 (fun _ => x) (S 20)))) rfl ?_
  refine am_aload_n rfl rfl rfl ?_
  refine am_get rfl rfl rfl ?_
  refine am_iconst rfl ?_
  refine am_aald (k8 := 1) rfl rfl (Or.inl rfl) rfl (by decide) (by decide) rfl ?_
  refine am_iload_n rfl rfl ?_
  refine am_Sx [.ref 21, .int y] rfl rfl rfl rfl (s_fill (d := d) rfl (by decide) y) ?_
  refine am_Meq (M' := mem ch (am_up (am_up S 20 (pw 12 (fun _ => x) (S 20))) 21 (pw 12 (fun _ => y) (S 21)))) rfl ?_
  refine am_aload_n rfl rfl rfl ?_
  refine am_get rfl rfl rfl ?_
  refine am_iconst rfl ?_
  refine am_aald (k8 := 2) rfl rfl (Or.inl rfl) rfl (by decide) (by decide) rfl ?_
  refine am_iload_n rfl rfl ?_
  refine am_Sx [.ref 22, .int z] rfl rfl rfl rfl (s_fill (d := d) rfl (by decide) z) ?_
  exact am_return rfl ⟨rfl, rfl⟩
/-- holdIdentities() -/
theorem s_holdI : AW g (d + 1) 0 0 43 0 (am_L0 43 [.ref 1]) [] (mem ch S) (am_is none (mem ch (am_up S 20 (pw 12 (S 3) (S 20))))) := by
  refine am_aload_n rfl rfl rfl ?_
  refine am_get rfl rfl rfl ?_
  refine am_get rfl rfl rfl ?_
  refine am_iconst rfl ?_
  refine am_aload_n rfl rfl rfl ?_
  refine am_get rfl rfl rfl ?_
  refine am_iconst rfl ?_
  refine am_aald (k8 := 0) rfl rfl (Or.inl rfl) rfl (by decide) (by decide) rfl ?_
  refine am_iconst rfl ?_
  refine am_bipush rfl ?_
  refine am_copy (n := 12) rfl rfl rfl (by decide) (by decide) (by decide) (by decide) ?_
  refine am_Meq (M' := mem ch (am_up S 20 (va_cpy (S 3) (S 20) 0 0 12))) rfl ?_
  rw [cpy_pw]
  exact am_return rfl ⟨rfl, rfl⟩
/-- settle() -/
def stl (S : am_S0) : am_S0 := am_up (am_up (am_up S 24 (pw 12 (S 20) (S 24))) 25 (pw 12 (S 21) (S 25))) 26 (pw 12 (S 22) (S 26))
def stl1 (v : Nat) (S : am_S0) : am_S0 := am_up S (24 + v) (pw 12 (S (20 + v)) (S (24 + v)))
theorem s_settle : AW g (d + 1) 0 0 53 0 (am_L0 53 [.ref 1]) [] (mem ch S) (am_is none (mem ch (stl S))) := by
  refine am_iconst rfl ?_
  refine am_istore_n rfl ?_
  refine am_Meq (M' := mem ch (itr stl1 0 S)) rfl ?_
  show AW g (d + 1) 0 0 53 2 [some (.ref 1), some (.int (nI 0))] [] _ _
  refine am_for (3) (fun v => [some (.ref 1), some (.int (nI v))]) (fun v => mem ch (itr stl1 v S)) (fun v hv k => ?_) ?_ 3 0 (by omega)
  · rw [itr_s] at k
    generalize itr stl1 v S = S1 at k ⊢
    refine am_iload_n rfl rfl ?_
    refine am_iconst rfl ?_
    refine am_icmp_ge rfl (fun h => absurd h (nI_ge hv (by decide))) (fun _ => ?_)
    refine am_aload_n rfl rfl rfl ?_
    refine am_get rfl rfl rfl ?_
    refine am_iload_n rfl rfl ?_
    refine am_aald rfl rfl (Or.inl rfl) rfl hv (by decide) (if_pos hv) ?_
    refine am_iconst rfl ?_
    refine am_aload_n rfl rfl rfl ?_
    refine am_get rfl rfl rfl ?_
    refine am_iload_n rfl rfl ?_
    refine am_aald rfl rfl (Or.inl rfl) rfl hv (by decide) (if_pos hv) ?_
    refine am_iconst rfl ?_
    refine am_bipush rfl ?_
    refine am_copy (n := 12) rfl (mem_he v hv) (mem_be v hv) (by decide) (by decide) (by decide) (by decide) ?_
    refine am_Meq (mem_be_set v hv) ?_
    rw [cpy_pw]
    refine am_iinc rfl rfl ?_
    refine am_goto rfl ?_
    unfold stl1 at k
    simp only [nI_succ] at k
    exact k
  · refine am_iload_n rfl rfl ?_
    refine am_iconst rfl ?_
    refine am_icmp_ge rfl (fun _ => ?_) (fun h => absurd (nI_le (Nat.le_refl 3) (by decide)) h)
    exact am_return rfl ⟨rfl, rfl⟩
/-- growTree() -/
def grw (E : Nat → Nat → Option Nat) (n x : Nat) (S : am_S0) : am_S0 := am_up (am_up S 18 (msr E n n (far0 x (S 18)))) 28 (pw n (fun v => em (nrr E n (msr E n n (far0 x (S 18))) v)) (S 28))
theorem s_grow (N : NetIs S n E) (x : Nat) (hx : x < 12) (hr : S 1 5 = nI x) : AW g (d + 3) 0 0 44 0 (am_L0 44 [.ref 1]) [] (mem ch S) (am_is none (mem ch (grw E n x S))) := by
  have hn := N.2.1
  refine am_aload_n rfl rfl rfl ?_
  refine am_get rfl rfl rfl ?_
  refine am_aload_n rfl rfl rfl ?_
  refine am_get rfl rfl rfl ?_
  rw [hr]
  refine am_Vx [.int (nI x)] rfl rfl rfl rfl rfl rfl (s_measure (d := d) N x hx) ?_
  refine am_iconst rfl ?_
  refine am_istore_n rfl ?_
  unfold grw
  generalize hF : msr E n n (far0 x (S 18)) = F
  refine am_Meq (M' := mem ch (am_up (am_up S 18 F) 28 (pw 0 (fun v => em (nrr E n F v)) (S 28)))) (by rw [pw_0]; exact congrArg (mem ch) (am_up_self (am_up S 18 F) 28).symm) ?_
  show AW g (d + 3) 0 0 44 7 [some (.ref 1), some (.int (nI 0))] [] _ _
  refine am_for (n) (fun v => [some (.ref 1), some (.int (nI v))]) (fun v => mem ch (am_up (am_up S 18 F) 28 (pw v (fun v => em (nrr E n F v)) (S 28)))) (fun v hv k => ?_) ?_ n 0 (by omega)
  · refine am_iload_n rfl rfl ?_
    refine am_aload_n rfl rfl rfl ?_
    refine am_get rfl rfl rfl ?_
    refine am_get rfl rfl rfl ?_
    refine am_icmp_ge rfl (fun h => absurd h (nd_lt N.1 N.2.1 hv)) (fun _ => ?_)
    refine am_aload_n rfl rfl rfl ?_
    refine am_get rfl rfl rfl ?_
    refine am_iload_n rfl rfl ?_
    refine am_aload_n rfl rfl rfl ?_
    refine am_get rfl rfl rfl ?_
    refine am_iload_n rfl rfl ?_
    refine am_Vx [.int (nI v)] rfl rfl rfl rfl rfl rfl (s_nearer (d := d + 1) ((N.up (k := 18) (by decide)).up (k := 28) (by decide)) v (by omega)) ?_
    refine am_iast rfl rfl rfl (by omega) (by decide) ?_
    refine am_Meq (M' := mem ch (am_up (am_up S 18 F) 28 (pw (v + 1) (fun v => em (nrr E n F v)) (S 28)))) ?_ ?_
    · show mem ch (am_up (am_up (am_up S 18 F) 28 (pw v (fun v => em (nrr E n F v)) (S 28))) 28 (upd (pw v (fun v => em (nrr E n F v)) (S 28)) v (em (nrr E n F v)))) = _
      rw [am_up_up]
      exact congrArg (fun q => mem ch (am_up (am_up S 18 F) 28 q)) (pw_s v (fun v => em (nrr E n F v)) (S 28))
    refine am_iinc rfl rfl ?_
    refine am_goto rfl ?_
    simp only [nI_succ] at k
    exact k
  · refine am_iload_n rfl rfl ?_
    refine am_aload_n rfl rfl rfl ?_
    refine am_get rfl rfl rfl ?_
    refine am_get rfl rfl rfl ?_
    refine am_icmp_ge rfl (fun _ => ?_) (fun h => absurd (nd_ge N.1 N.2.1) h)
    exact am_return rfl ⟨rfl, rfl⟩
/-- countNeighboursWith(v, value) -/
def nbw (E : Nat → Nat → Option Nat) (n : Nat) (f : Nat → Int32) (v : Nat) (y : Int32) : Nat := cnt (fun u => (E v u).isSome && decide (f u = y)) n
theorem s_countNW (N : NetIs S n E) (x : Nat) (hx : x < 12) (y : Int32) : AW g (d + 1) 0 0 59 0 (am_L0 59 [.ref 1, .int (nI x), .int y]) [] (mem ch S) (am_is (some (.int (nI (nbw E n (S 24) x y)))) (mem ch S)) := by
  have hn := N.2.1
  unfold nbw
  refine am_iconst rfl ?_
  refine am_istore_n rfl ?_
  refine am_iconst rfl ?_
  refine am_istore rfl ?_
  show AW g (d + 1) 0 0 59 4 [some (.ref 1), some (.int (nI x)), some (.int y), some (.int (nI (cnt (fun u => (E x u).isSome && decide (S 24 u = y)) 0))), some (.int (nI 0))] [] (mem ch S) _
  refine am_for (n) (fun v => [some (.ref 1), some (.int (nI x)), some (.int y), some (.int (nI (cnt (fun u => (E x u).isSome && decide (S 24 u = y)) v))), some (.int (nI v))]) (fun v => mem ch S) (fun v hv k => ?_) ?_ n 0 (by omega)
  · refine am_iload rfl rfl ?_
    refine am_aload_n rfl rfl rfl ?_
    refine am_get rfl rfl rfl ?_
    refine am_get rfl rfl rfl ?_
    refine am_icmp_ge rfl (fun h => absurd h (nd_lt N.1 N.2.1 hv)) (fun _ => ?_)
    refine am_aload_n rfl rfl rfl ?_
    refine am_get rfl rfl rfl ?_
    refine am_iload_n rfl rfl ?_
    refine am_iload rfl rfl ?_
    refine am_Vx [.int (nI x), .int (nI v)] rfl rfl rfl rfl rfl rfl (s_areN N x v hx (by omega)) ?_
    refine am_if_eq rfl (fun h14 => ?_) (fun h14 => ?_)
    · refine am_iinc rfl rfl ?_
      refine am_goto rfl ?_
      first
        | (simp only [cnt, bi_0 h14, Bool.false_and, cond_false, nI_succ] at k; exact k)
        | (simp only [cnt, bi_1 h14, decide_eq_false h22, Bool.and_false, cond_false, nI_succ] at k; exact k)
        | (simp only [cnt, bi_1 h14, decide_eq_true h22, Bool.and_self, cond_true, nI_succ] at k; exact k)
    · refine am_aload_n rfl rfl rfl ?_
      refine am_get rfl rfl rfl ?_
      refine am_iconst rfl ?_
      refine am_aald (k8 := 0) rfl rfl (Or.inl rfl) rfl (by decide) (by decide) rfl ?_
      refine am_iload rfl rfl ?_
      refine am_iald rfl rfl rfl (by omega) (by decide) ?_
      refine am_iload_n rfl rfl ?_
      refine am_icmp_ne rfl (fun h22 => ?_) (fun h22 => ?_)
      · refine am_iinc rfl rfl ?_
        refine am_goto rfl ?_
        first
          | (simp only [cnt, bi_0 h14, Bool.false_and, cond_false, nI_succ] at k; exact k)
          | (simp only [cnt, bi_1 h14, decide_eq_false h22, Bool.and_false, cond_false, nI_succ] at k; exact k)
          | (simp only [cnt, bi_1 h14, decide_eq_true h22, Bool.and_self, cond_true, nI_succ] at k; exact k)
      · refine am_iinc rfl rfl ?_
        refine am_iinc rfl rfl ?_
        refine am_goto rfl ?_
        first
          | (simp only [cnt, bi_0 h14, Bool.false_and, cond_false, nI_succ] at k; exact k)
          | (simp only [cnt, bi_1 h14, decide_eq_false h22, Bool.and_false, cond_false, nI_succ] at k; exact k)
          | (simp only [cnt, bi_1 h14, decide_eq_true h22, Bool.and_self, cond_true, nI_succ] at k; exact k)
  · refine am_iload rfl rfl ?_
    refine am_aload_n rfl rfl rfl ?_
    refine am_get rfl rfl rfl ?_
    refine am_get rfl rfl rfl ?_
    refine am_icmp_ge rfl (fun _ => ?_) (fun h => absurd (nd_ge N.1 N.2.1) h)
    refine am_iload_n rfl rfl ?_
    refine am_ireturn rfl (fun h => absurd h (by decide)) ⟨?_, rfl⟩
    rfl
/-- countFreshLetters() -/
def frl (E : Nat → Nat → Option Nat) (n : Nat) (f : Nat → Int32) : Nat := sm (fun v => if f v = 0 then 0 else deg E n v) n
theorem s_freshL (N : NetIs S n E) : AW g (d + 2) 0 0 61 0 (am_L0 61 [.ref 1]) [] (mem ch S) (am_is (some (.int (nI (frl E n (S 27))))) (mem ch S)) := by
  have hn := N.2.1
  unfold frl
  refine am_iconst rfl ?_
  refine am_istore_n rfl ?_
  refine am_iconst rfl ?_
  refine am_istore_n rfl ?_
  show AW g (d + 2) 0 0 61 4 [some (.ref 1), some (.int (nI (sm (fun v => if S 27 v = 0 then 0 else deg E n v) 0))), some (.int (nI 0))] [] (mem ch S) _
  refine am_for (n) (fun v => [some (.ref 1), some (.int (nI (sm (fun v => if S 27 v = 0 then 0 else deg E n v) v))), some (.int (nI v))]) (fun v => mem ch S) (fun v hv k => ?_) ?_ n 0 (by omega)
  · refine am_iload_n rfl rfl ?_
    refine am_aload_n rfl rfl rfl ?_
    refine am_get rfl rfl rfl ?_
    refine am_get rfl rfl rfl ?_
    refine am_icmp_ge rfl (fun h => absurd h (nd_lt N.1 N.2.1 hv)) (fun _ => ?_)
    refine am_aload_n rfl rfl rfl ?_
    refine am_get rfl rfl rfl ?_
    refine am_iload_n rfl rfl ?_
    refine am_bald rfl rfl rfl (by omega) (by decide) ?_
    refine am_if_eq rfl (fun h13 => ?_) (fun h13 => ?_)
    · refine am_iinc rfl rfl ?_
      refine am_goto rfl ?_
      first
        | (simp only [sm, if_pos h13, Nat.add_zero, nI_succ] at k; exact k)
        | (simp only [sm, if_neg h13, deg, nI_succ] at k; exact k)
    · refine am_iload_n rfl rfl ?_
      refine am_aload_n rfl rfl rfl ?_
      refine am_get rfl rfl rfl ?_
      refine am_iload_n rfl rfl ?_
      refine am_Vx [.int (nI v)] rfl rfl rfl rfl rfl rfl (s_countN (d := d) N v (by omega)) ?_
      refine am_iadd rfl ?_
      rw [nI_add]
      refine am_istore_n rfl ?_
      refine am_iinc rfl rfl ?_
      refine am_goto rfl ?_
      first
        | (simp only [sm, if_pos h13, Nat.add_zero, nI_succ] at k; exact k)
        | (simp only [sm, if_neg h13, deg, nI_succ] at k; exact k)
  · refine am_iload_n rfl rfl ?_
    refine am_aload_n rfl rfl rfl ?_
    refine am_get rfl rfl rfl ?_
    refine am_get rfl rfl rfl ?_
    refine am_icmp_ge rfl (fun _ => ?_) (fun h => absurd (nd_ge N.1 N.2.1) h)
    refine am_iload_n rfl rfl ?_
    refine am_ireturn rfl (fun h => absurd h (by decide)) ⟨?_, rfl⟩
    rfl
/-- countLettersAmong(value) -/
def lam (E : Nat → Nat → Option Nat) (n : Nat) (f : Nat → Int32) (y : Int32) : Nat := sm (fun v => if f v = y then nbw E n f v y else 0) n
theorem s_lettersA (N : NetIs S n E) (y : Int32) : AW g (d + 2) 0 0 63 0 (am_L0 63 [.ref 1, .int y]) [] (mem ch S) (am_is (some (.int (nI (lam E n (S 24) y)))) (mem ch S)) := by
  have hn := N.2.1
  unfold lam
  refine am_iconst rfl ?_
  refine am_istore_n rfl ?_
  refine am_iconst rfl ?_
  refine am_istore_n rfl ?_
  show AW g (d + 2) 0 0 63 4 [some (.ref 1), some (.int y), some (.int (nI (sm (fun v => if S 24 v = y then nbw E n (S 24) v y else 0) 0))), some (.int (nI 0))] [] (mem ch S) _
  refine am_for (n) (fun v => [some (.ref 1), some (.int y), some (.int (nI (sm (fun v => if S 24 v = y then nbw E n (S 24) v y else 0) v))), some (.int (nI v))]) (fun v => mem ch S) (fun v hv k => ?_) ?_ n 0 (by omega)
  · refine am_iload_n rfl rfl ?_
    refine am_aload_n rfl rfl rfl ?_
    refine am_get rfl rfl rfl ?_
    refine am_get rfl rfl rfl ?_
    refine am_icmp_ge rfl (fun h => absurd h (nd_lt N.1 N.2.1 hv)) (fun _ => ?_)
    refine am_aload_n rfl rfl rfl ?_
    refine am_get rfl rfl rfl ?_
    refine am_iconst rfl ?_
    refine am_aald (k8 := 0) rfl rfl (Or.inl rfl) rfl (by decide) (by decide) rfl ?_
    refine am_iload_n rfl rfl ?_
    refine am_iald rfl rfl rfl (by omega) (by decide) ?_
    refine am_iload_n rfl rfl ?_
    refine am_icmp_ne rfl (fun h16 => ?_) (fun h16 => ?_)
    · refine am_iinc rfl rfl ?_
      refine am_goto rfl ?_
      first
        | (simp only [sm, if_pos h16, nI_succ] at k; exact k)
        | (simp only [sm, if_neg h16, Nat.add_zero, nI_succ] at k; exact k)
    · refine am_iload_n rfl rfl ?_
      refine am_aload_n rfl rfl rfl ?_
      refine am_iload_n rfl rfl ?_
      refine am_iload_n rfl rfl ?_
      refine am_Vx [.int (nI v), .int y] rfl rfl rfl rfl rfl rfl (s_countNW (d := d) N v (by omega) y) ?_
      refine am_iadd rfl ?_
      rw [nI_add]
      refine am_istore_n rfl ?_
      refine am_iinc rfl rfl ?_
      refine am_goto rfl ?_
      first
        | (simp only [sm, if_pos h16, nI_succ] at k; exact k)
        | (simp only [sm, if_neg h16, Nat.add_zero, nI_succ] at k; exact k)
  · refine am_iload_n rfl rfl ?_
    refine am_aload_n rfl rfl rfl ?_
    refine am_get rfl rfl rfl ?_
    refine am_get rfl rfl rfl ?_
    refine am_icmp_ge rfl (fun _ => ?_) (fun h => absurd (nd_ge N.1 N.2.1) h)
    refine am_iload_n rfl rfl ?_
    refine am_ireturn rfl (fun h => absurd h (by decide)) ⟨?_, rfl⟩
    rfl
theorem mset27 {f f2 : Nat → Int32} : (mem ch (am_up S 27 f)).set 27 (.inl (1, 12, .inl f2)) = mem ch (am_up S 27 f2) := by
  show mem ch (am_up (am_up S 27 f) 27 f2) = _
  rw [am_up_up]
/-- markFresh() -/
def mrk (S : am_S0) (n : Nat) : am_S0 := am_up S 27 (pw n (fun v => bi (!decide (S 20 v = S 24 v))) (S 27))
theorem s_mark (N : NetIs S n E) : AW g d 0 0 96 0 (am_L0 96 [.ref 1]) [] (mem ch S) (am_is none (mem ch (mrk S n))) := by
  have hn := N.2.1
  unfold mrk
  refine am_iconst rfl ?_
  refine am_istore_n rfl ?_
  refine am_Meq (M' := mem ch (am_up S 27 (pw 0 (fun v => bi (!decide (S 20 v = S 24 v))) (S 27)))) (by rw [pw_0, am_up_self]) ?_
  refine am_for (n) (fun v => [some (.ref 1), some (.int (nI v))]) (fun v => mem ch (am_up S 27 (pw v (fun v => bi (!decide (S 20 v = S 24 v))) (S 27)))) (fun v hv k => ?_) ?_ n 0 (by omega)
  · refine am_iload_n rfl rfl ?_
    refine am_aload_n rfl rfl rfl ?_
    refine am_get rfl rfl rfl ?_
    refine am_get rfl rfl rfl ?_
    refine am_icmp_ge rfl (fun h => absurd h (nd_lt (N.up (k := 27) (by decide)).1 N.2.1 hv)) (fun _ => ?_)
    refine am_aload_n rfl rfl rfl ?_
    refine am_get rfl rfl rfl ?_
    refine am_iload_n rfl rfl ?_
    refine am_aload_n rfl rfl rfl ?_
    refine am_get rfl rfl rfl ?_
    refine am_iconst rfl ?_
    refine am_aald (k8 := 0) rfl rfl (Or.inl rfl) rfl (by decide) (by decide) rfl ?_
    refine am_iload_n rfl rfl ?_
    refine am_iald rfl rfl rfl (by omega) (by decide) ?_
    refine am_aload_n rfl rfl rfl ?_
    refine am_get rfl rfl rfl ?_
    refine am_iconst rfl ?_
    refine am_aald (k8 := 0) rfl rfl (Or.inl rfl) rfl (by decide) (by decide) rfl ?_
    refine am_iload_n rfl rfl ?_
    refine am_iald rfl rfl rfl (by omega) (by decide) ?_
    refine am_icmp_eq rfl (fun h22 => ?_) (fun h22 => ?_)
    · refine am_iconst rfl ?_
      refine am_bast rfl rfl rfl (by omega) (by decide) (by decide) ?_
      refine am_Meq (M' := mem ch (am_up S 27 (pw (v + 1) (fun v => bi (!decide (S 20 v = S 24 v))) (S 27)))) ?_ ?_
      · rw [← pw_s, mset27, am_up_at]
        first
          | (have h22 : S 20 v = S 24 v := h22; rw [decide_eq_true h22]; rfl)
          | (have h22 : ¬ S 20 v = S 24 v := h22; rw [decide_eq_false h22]; rfl)
      refine am_iinc rfl rfl ?_
      refine am_goto rfl ?_
      simp only [nI_succ] at k
      exact k
    · refine am_iconst rfl ?_
      refine am_goto rfl ?_
      refine am_bast rfl rfl rfl (by omega) (by decide) (by decide) ?_
      refine am_Meq (M' := mem ch (am_up S 27 (pw (v + 1) (fun v => bi (!decide (S 20 v = S 24 v))) (S 27)))) ?_ ?_
      · rw [← pw_s, mset27, am_up_at]
        first
          | (have h22 : S 20 v = S 24 v := h22; rw [decide_eq_true h22]; rfl)
          | (have h22 : ¬ S 20 v = S 24 v := h22; rw [decide_eq_false h22]; rfl)
      refine am_iinc rfl rfl ?_
      refine am_goto rfl ?_
      simp only [nI_succ] at k
      exact k
  · refine am_iload_n rfl rfl ?_
    refine am_aload_n rfl rfl rfl ?_
    refine am_get rfl rfl rfl ?_
    refine am_get rfl rfl rfl ?_
    refine am_icmp_ge rfl (fun _ => ?_) (fun h => absurd (nd_ge (N.up (k := 27) (by decide)).1 N.2.1) h)
    exact am_return rfl ⟨rfl, rfl⟩
end CCRS
