/-! the class: what the algorithms take, hold at first, when they are over, how many letters they send -/
section CALG
variable {g : am_G} {d : Nat} {ch : Option Nat} {S : am_S0} {n : Nat} {E : Nat → Nat → Option Nat}
/-- s_takes4 -/
theorem s_takes4 (x : Int32) : AW g d 0 0 30 0 (am_L0 30 [.ref 34, .ref 2, .int x]) [] (mem ch S) (am_is (some (.int 1)) (mem ch S)) := by
  refine am_iconst rfl ?_
  refine am_ireturn rfl (fun _ => by decide) ⟨?_, rfl⟩
  rfl
/-- s_takes0 -/
theorem s_takes0 (x : Int32) : AW g d 0 0 33 0 (am_L0 33 [.ref 30, .ref 2, .int x]) [] (mem ch S) (am_is (some (.int 1)) (mem ch S)) := by
  refine am_iconst rfl ?_
  refine am_ireturn rfl (fun _ => by decide) ⟨?_, rfl⟩
  rfl
/-- s_takes5 -/
theorem s_takes5 (x : Int32) : AW g d 0 0 34 0 (am_L0 34 [.ref 35, .ref 2, .int x]) [] (mem ch S) (am_is (some (.int 1)) (mem ch S)) := by
  refine am_iconst rfl ?_
  refine am_ireturn rfl (fun _ => by decide) ⟨?_, rfl⟩
  rfl
/-- s_takes3 -/
theorem s_takes3 (x : Int32) : AW g (d + 1) 0 0 31 0 (am_L0 31 [.ref 33, .ref 2, .int x]) [] (mem ch S) (am_is (some (.int (bi (decide (0 ≤ x) && decide (x < S 2 4))))) (mem ch S)) := by
  refine am_aload_n rfl rfl rfl ?_
  refine am_iload_n rfl rfl ?_
  refine am_Vx [.int x] rfl rfl rfl rfl rfl rfl (s_hasNode (d := d) x) ?_
  exact am_ireturn rfl (fun _ => bi_01 _) ⟨rfl, rfl⟩
/-- s_takes7 -/
theorem s_takes7 (x : Int32) : AW g (d + 1) 0 0 35 0 (am_L0 35 [.ref 37, .ref 2, .int x]) [] (mem ch S) (am_is (some (.int (bi (decide (0 ≤ x) && decide (x < S 2 4))))) (mem ch S)) := by
  refine am_aload_n rfl rfl rfl ?_
  refine am_iload_n rfl rfl ?_
  refine am_Vx [.int x] rfl rfl rfl rfl rfl rfl (s_hasNode (d := d) x) ?_
  exact am_ireturn rfl (fun _ => bi_01 _) ⟨rfl, rfl⟩
/-- s_takes2 -/
theorem s_takes2 (x : Int32) : AW g (d + 1) 0 0 36 0 (am_L0 36 [.ref 32, .ref 2, .int x]) [] (mem ch S) (am_is (some (.int (bi (decide (0 ≤ x) && decide (x < S 2 4))))) (mem ch S)) := by
  refine am_aload_n rfl rfl rfl ?_
  refine am_iload_n rfl rfl ?_
  refine am_Vx [.int x] rfl rfl rfl rfl rfl rfl (s_hasNode (d := d) x) ?_
  exact am_ireturn rfl (fun _ => bi_01 _) ⟨rfl, rfl⟩
/-- s_takes1 -/
theorem s_takes1 (x : Int32) : AW g (d + 1) 0 0 37 0 (am_L0 37 [.ref 31, .ref 2, .int x]) [] (mem ch S) (am_is (some (.int (bi (decide (0 ≤ x) && decide (x < S 2 4))))) (mem ch S)) := by
  refine am_aload_n rfl rfl rfl ?_
  refine am_iload_n rfl rfl ?_
  refine am_Vx [.int x] rfl rfl rfl rfl rfl rfl (s_hasNode (d := d) x) ?_
  exact am_ireturn rfl (fun _ => bi_01 _) ⟨rfl, rfl⟩
/-- s_takes6 -/
theorem s_takes6 (x : Int32) : AW g d 0 0 32 0 (am_L0 32 [.ref 36, .ref 2, .int x]) [] (mem ch S) (am_is (some (.int (bi (decide (1 ≤ x) && decide (x ≤ 12))))) (mem ch S)) := by
  refine am_iload_n rfl rfl ?_
  refine am_iconst rfl ?_
  refine am_icmp_lt rfl (fun h2 => ?_) (fun h2 => ?_)
  · refine am_iconst rfl ?_
    refine am_ireturn rfl (fun _ => by decide) ⟨?_, rfl⟩
    first
      | (rw [decide_eq_true (Int32.not_lt.mp h2), decide_eq_true (Int32.not_lt.mp h5)]; rfl)
      | (rw [decide_eq_false (Int32.not_le.mpr h2), Bool.false_and]; rfl)
      | (rw [decide_eq_false (Int32.not_le.mpr h5), Bool.and_false]; rfl)
  · refine am_iload_n rfl rfl ?_
    refine am_bipush rfl ?_
    refine am_icmp_gt rfl (fun h5 => ?_) (fun h5 => ?_)
    · refine am_iconst rfl ?_
      refine am_ireturn rfl (fun _ => by decide) ⟨?_, rfl⟩
      first
        | (rw [decide_eq_true (Int32.not_lt.mp h2), decide_eq_true (Int32.not_lt.mp h5)]; rfl)
        | (rw [decide_eq_false (Int32.not_le.mpr h2), Bool.false_and]; rfl)
        | (rw [decide_eq_false (Int32.not_le.mpr h5), Bool.and_false]; rfl)
    · refine am_iconst rfl ?_
      refine am_goto rfl ?_
      refine am_ireturn rfl (fun _ => by decide) ⟨?_, rfl⟩
      first
        | (rw [decide_eq_true (Int32.not_lt.mp h2), decide_eq_true (Int32.not_lt.mp h5)]; rfl)
        | (rw [decide_eq_false (Int32.not_le.mpr h2), Bool.false_and]; rfl)
        | (rw [decide_eq_false (Int32.not_le.mpr h5), Bool.and_false]; rfl)
/-- s_start4 -/
theorem s_start4  : AW g (d + 2) 0 0 40 0 (am_L0 40 [.ref 34, .ref 1]) [] (mem ch S) (am_is none (mem ch (hld S 0 0 (-1)))) := by
  refine am_aload_n rfl rfl rfl ?_
  refine am_iconst rfl ?_
  refine am_iconst rfl ?_
  refine am_iconst rfl ?_
  refine am_Vx [.int 0, .int 0, .int (-1)] rfl rfl rfl rfl rfl rfl (s_holdE (d := _) 0 0 (-1)) ?_
  exact am_return rfl ⟨rfl, rfl⟩
/-- s_start5 -/
theorem s_start5  : AW g (d + 2) 0 0 49 0 (am_L0 49 [.ref 35, .ref 1]) [] (mem ch S) (am_is none (mem ch (hld S (-1) 0 (-1)))) := by
  refine am_aload_n rfl rfl rfl ?_
  refine am_iconst rfl ?_
  refine am_iconst rfl ?_
  refine am_iconst rfl ?_
  refine am_Vx [.int (-1), .int 0, .int (-1)] rfl rfl rfl rfl rfl rfl (s_holdE (d := _) (-1) 0 (-1)) ?_
  exact am_return rfl ⟨rfl, rfl⟩
def st0 (S : am_S0) : am_S0 := am_up (am_up (hld S (-1) 0 (-1)) 20 (pw 12 (S 3) (pw 12 (fun _ => -1) (S 20)))) 27 (pw 12 (fun _ => 1) (S 27))
/-- s_start0 -/
theorem s_start0  : AW g (d + 2) 0 0 48 0 (am_L0 48 [.ref 30, .ref 1]) [] (mem ch S) (am_is none (mem ch (st0 S))) := by
  refine am_aload_n rfl rfl rfl ?_
  refine am_iconst rfl ?_
  refine am_iconst rfl ?_
  refine am_iconst rfl ?_
  refine am_Vx [.int (-1), .int 0, .int (-1)] rfl rfl rfl rfl rfl rfl (s_holdE (d := _) (-1) 0 (-1)) ?_
  refine am_aload_n rfl rfl rfl ?_
  refine am_Vx [] rfl rfl rfl rfl rfl rfl (s_holdI (d := _)) ?_
  refine am_aload_n rfl rfl rfl ?_
  refine am_iconst rfl ?_
  refine am_Vx [.int 1] rfl rfl rfl rfl rfl rfl (s_setFresh (d := _) 1 (Or.inr rfl)) ?_
  exact am_return rfl ⟨rfl, rfl⟩
def stR (S : am_S0) (a b c : Int32) (x : Nat) : am_S0 := am_up (am_up (hld S a b c) 20 (upd (pw 12 (fun _ => a) (S 20)) x 0)) 27 (upd (S 27) x 1)
/-- s_start1 -/
theorem s_start1 (x : Nat) (hx : x < 12) (hr : S 1 5 = nI x) : AW g (d + 2) 0 0 52 0 (am_L0 52 [.ref 31, .ref 1]) [] (mem ch S) (am_is none (mem ch (stR S (-1) (-1) 0 x))) := by
  refine am_aload_n rfl rfl rfl ?_
  refine am_iconst rfl ?_
  refine am_iconst rfl ?_
  refine am_iconst rfl ?_
  refine am_Vx [.int (-1), .int (-1), .int 0] rfl rfl rfl rfl rfl rfl (s_holdE (d := _) (-1) (-1) 0) ?_
  refine am_aload_n rfl rfl rfl ?_
  refine am_get rfl rfl rfl ?_
  refine am_iconst rfl ?_
  refine am_aald (k8 := 0) rfl rfl (Or.inl rfl) rfl (by decide) (by decide) rfl ?_
  refine am_aload_n rfl rfl rfl ?_
  refine am_get rfl rfl rfl ?_
  refine am_iconst rfl ?_
  refine am_iast rfl rfl hr hx (by decide) ?_
  refine am_Meq (M' := mem ch (am_up (hld S (-1) (-1) 0) 20 (upd (pw 12 (fun _ => (-1)) (S 20)) x 0))) rfl ?_
  refine am_aload_n rfl rfl rfl ?_
  refine am_get rfl rfl rfl ?_
  refine am_aload_n rfl rfl rfl ?_
  refine am_get rfl rfl rfl ?_
  refine am_iconst rfl ?_
  refine am_bast rfl rfl hr hx (by decide) (by decide) ?_
  exact am_return rfl ⟨rfl, rfl⟩
/-- s_start7 -/
theorem s_start7 (x : Nat) (hx : x < 12) (hr : S 1 5 = nI x) : AW g (d + 2) 0 0 50 0 (am_L0 50 [.ref 37, .ref 1]) [] (mem ch S) (am_is none (mem ch (stR S (-1) 0 0 x))) := by
  refine am_aload_n rfl rfl rfl ?_
  refine am_iconst rfl ?_
  refine am_iconst rfl ?_
  refine am_iconst rfl ?_
  refine am_Vx [.int (-1), .int 0, .int 0] rfl rfl rfl rfl rfl rfl (s_holdE (d := _) (-1) 0 0) ?_
  refine am_aload_n rfl rfl rfl ?_
  refine am_get rfl rfl rfl ?_
  refine am_iconst rfl ?_
  refine am_aald (k8 := 0) rfl rfl (Or.inl rfl) rfl (by decide) (by decide) rfl ?_
  refine am_aload_n rfl rfl rfl ?_
  refine am_get rfl rfl rfl ?_
  refine am_iconst rfl ?_
  refine am_iast rfl rfl hr hx (by decide) ?_
  refine am_Meq (M' := mem ch (am_up (hld S (-1) 0 0) 20 (upd (pw 12 (fun _ => (-1)) (S 20)) x 0))) rfl ?_
  refine am_aload_n rfl rfl rfl ?_
  refine am_get rfl rfl rfl ?_
  refine am_aload_n rfl rfl rfl ?_
  refine am_get rfl rfl rfl ?_
  refine am_iconst rfl ?_
  refine am_bast rfl rfl hr hx (by decide) (by decide) ?_
  exact am_return rfl ⟨rfl, rfl⟩
def stG (S : am_S0) (a b c : Int32) (E : Nat → Nat → Option Nat) (n x : Nat) : am_S0 := grw E n x (am_up (hld S a b c) 20 (pw 12 (S 3) (pw 12 (fun _ => a) (S 20))))
theorem NetIs.hold {a b c : Int32} (N : NetIs S n E) : NetIs (hld S a b c) n E := ((N.up (k := 20) (by decide)).up (k := 21) (by decide)).up (k := 22) (by decide)
theorem NetIs.stG {a b c : Int32} {x : Nat} (N : NetIs S n E) : NetIs (stG S a b c E n x) n E := ((N.hold.up (k := 20) (by decide)).up (k := 18) (by decide)).up (k := 28) (by decide)
/-- s_start3 -/
theorem s_start3 (N : NetIs S n E) (x : Nat) (hx : x < 12) (hr : S 1 5 = nI x) : AW g (d + 4) 0 0 42 0 (am_L0 42 [.ref 33, .ref 1]) [] (mem ch S) (am_is none (mem ch (stG S (-1) (-1) (-1) E n x))) := by
  refine am_aload_n rfl rfl rfl ?_
  refine am_iconst rfl ?_
  refine am_iconst rfl ?_
  refine am_iconst rfl ?_
  refine am_Vx [.int (-1), .int (-1), .int (-1)] rfl rfl rfl rfl rfl rfl (s_holdE (d := _) (-1) (-1) (-1)) ?_
  refine am_aload_n rfl rfl rfl ?_
  refine am_Vx [] rfl rfl rfl rfl rfl rfl (s_holdI (d := _)) ?_
  refine am_aload_n rfl rfl rfl ?_
  refine am_Vx [] rfl rfl rfl rfl rfl rfl (s_grow (d := d) (N.hold.up (k := 20) (by decide)) x hx hr) ?_
  exact am_return rfl ⟨rfl, rfl⟩
/-- how many children each has, counted from the parents p -/
def chd (p : Nat → Option Nat) (k : Nat) (f : Nat → Int32) : Nat → Int32 := itr (fun v f => match p v with | none => f | some u => upd f u (f u + 1)) k f
theorem fst?_lt {p : Nat → Bool} : ∀ {n u : Nat}, fst? p n = some u → u < n ∧ p u = true
  | 0, u, h => by cases h
  | n + 1, u, h => by
    unfold fst? at h
    cases e : fst? p n with
    | some w =>
      rw [e] at h
      cases h
      have := fst?_lt e
      exact ⟨by omega, this.2⟩
    | none =>
      rw [e] at h
      cases e2 : p n with
      | false => rw [e2] at h; cases h
      | true => rw [e2] at h; cases h; exact ⟨by omega, e2⟩
theorem nrr_lt {f : Nat → Int32} {x u : Nat} (h : nrr E n f x = some u) : u < n := by
  unfold nrr at h
  cases e : decide (0 < f x) with
  | true => rw [e] at h; exact (fst?_lt h).1
  | false => rw [e] at h; cases h
theorem em_lt {x : Option Nat} (h : ∀ e, x = some e → e < 24) (hn : ¬ em x = -1) : ∃ u, x = some u ∧ em x = nI u := by
  cases x with
  | none => exact absurd rfl hn
  | some u => exact ⟨u, rfl, rfl⟩
/-- s_start2 -/
theorem s_start2 (N : NetIs S n E) (x : Nat) (hx : x < 12) (hr : S 1 5 = nI x) : AW g (d + 4) 0 0 51 0 (am_L0 51 [.ref 32, .ref 1]) [] (mem ch S) (am_is none (mem ch (am_up (stG S (-1) 0 0 E n x) 21 (chd (nrr E n (msr E n n (far0 x (S 18)))) n (pw 12 (fun _ => 0) (S 21)))))) := by
  have hn := N.2.1
  refine am_aload_n rfl rfl rfl ?_
  refine am_iconst rfl ?_
  refine am_iconst rfl ?_
  refine am_iconst rfl ?_
  refine am_Vx [.int (-1), .int 0, .int 0] rfl rfl rfl rfl rfl rfl (s_holdE (d := _) (-1) 0 0) ?_
  refine am_aload_n rfl rfl rfl ?_
  refine am_Vx [] rfl rfl rfl rfl rfl rfl (s_holdI (d := _)) ?_
  refine am_aload_n rfl rfl rfl ?_
  refine am_Vx [] rfl rfl rfl rfl rfl rfl (s_grow (d := d) (N.hold.up (k := 20) (by decide)) x hx hr) ?_
  refine am_iconst rfl ?_
  refine am_istore_n rfl ?_
  have e1 : (stG S (-1) 0 0 E n x) 21 = pw 12 (fun _ => 0) (S 21) := rfl
  have e2 : ∀ v, v < n → (stG S (-1) 0 0 E n x) 28 v = em (nrr E n (msr E n n (far0 x (S 18))) v) := fun v hv => pw_lt (F := fun v => em (nrr E n (msr E n n (far0 x (S 18))) v)) (f := S 28) hv
  have N2 : NetIs (stG S (-1) 0 0 E n x) n E := N.stG
  show AW g (d + 4) 0 0 51 11 [some (.ref 32), some (.ref 1), some (.int (nI 0)), none] [] (mem ch (stG S (-1) 0 0 E n x)) _
  generalize stG S (-1) 0 0 E n x = S1 at e1 e2 N2 ⊢
  generalize msr E n n (far0 x (S 18)) = F at e2 ⊢
  rw [← e1]
  refine am_Meq (M' := mem ch (am_up S1 21 (chd (nrr E n F) 0 (S1 21)))) (congrArg (mem ch) (am_up_self S1 21).symm) ?_
  have key : ∀ y : Option Value, AW g (d + 4) 0 0 51 11 [some (.ref 32), some (.ref 1), some (.int (nI 0)), y] [] (mem ch (am_up S1 21 (chd (nrr E n F) 0 (S1 21)))) (am_is none (mem ch (am_up S1 21 (chd (nrr E n F) n (S1 21))))) := by
    intro y
    refine am_forS n (fun v y => [some (.ref 32), some (.ref 1), some (.int (nI v)), y]) (fun v _ => mem ch (am_up S1 21 (chd (nrr E n F) v (S1 21)))) (fun _ _ => True) (fun v y hv _ k => ?_) (fun y _ => ?_) n 0 y (by omega) trivial
    · refine am_iload_n rfl rfl ?_
      refine am_aload_n rfl rfl rfl ?_
      refine am_get rfl rfl rfl ?_
      refine am_get rfl rfl rfl ?_
      refine am_icmp_ge rfl (fun h => absurd h (nd_lt (N2.up (k := 21) (by decide)).1 N.2.1 hv)) (fun _ => ?_)
      refine am_aload_n rfl rfl rfl ?_
      refine am_get rfl rfl rfl ?_
      refine am_iload_n rfl rfl ?_
      refine am_iald rfl rfl rfl (by omega) (by decide) ?_
      rw [show am_up S1 21 (chd (nrr E n F) v (S1 21)) 28 v = em (nrr E n F v) from e2 v hv]
      refine am_istore_n rfl ?_
      refine am_iload_n rfl rfl ?_
      refine am_iconst rfl ?_
      refine am_icmp_eq rfl (fun h23 => ?_) (fun h23 => ?_)
      · have h24 := (em_n1 (fun e he => by have := nrr_lt he; omega)).mp h23
        refine am_iinc rfl rfl ?_
        refine am_goto rfl ?_
        have k := k (some (.int (em (nrr E n F v)))) trivial
        unfold chd at k
        rw [itr_s, h24] at k
        rw [h24]
        simp only [nI_succ] at k
        exact k
      · obtain ⟨u, hu, hu2⟩ := em_lt (fun e he => by have := nrr_lt he; omega) h23
        have hul := nrr_lt hu
        refine am_aload_n rfl rfl rfl ?_
        refine am_get rfl rfl rfl ?_
        refine am_iconst rfl ?_
        refine am_aald (k8 := 1) rfl rfl (Or.inl rfl) rfl (by decide) (by decide) rfl ?_
        refine am_iload_n rfl rfl ?_
        refine am_dup2 rfl rfl rfl ?_
        refine am_iald rfl rfl hu2 (by omega) (by decide) ?_
        refine am_iconst rfl ?_
        refine am_iadd rfl ?_
        refine am_iast rfl rfl hu2 (by omega) (by decide) ?_
        refine am_iinc rfl rfl ?_
        refine am_goto rfl ?_
        have k := k (some (.int (em (nrr E n F v)))) trivial
        refine am_Meq (M' := mem ch (am_up S1 21 (chd (nrr E n F) (v + 1) (S1 21)))) ?_ ?_
        · show mem ch (am_up (am_up S1 21 (chd (nrr E n F) v (S1 21))) 21 (upd (am_up S1 21 (chd (nrr E n F) v (S1 21)) 21) u (am_up S1 21 (chd (nrr E n F) v (S1 21)) 21 u + 1))) = _
          rw [am_up_up, am_up_at]
          unfold chd
          rw [itr_s, hu]
        · simp only [nI_succ] at k
          exact k
    · refine am_iload_n rfl rfl ?_
      refine am_aload_n rfl rfl rfl ?_
      refine am_get rfl rfl rfl ?_
      refine am_get rfl rfl rfl ?_
      refine am_icmp_ge rfl (fun _ => ?_) (fun h => absurd (nd_ge (N2.up (k := 21) (by decide)).1 N.2.1) h)
      exact am_return rfl ⟨rfl, rfl⟩
  exact key none
def st6 (S : am_S0) (E : Nat → Nat → Option Nat) (n k : Nat) : am_S0 := am_up (hld S 1 0 0) 22 (pw k (fun v => nI (deg E n v)) (pw 12 (fun _ => 0) (S 22)))
/-- s_start6 -/
theorem s_start6 (N : NetIs S n E) : AW g (d + 2) 0 0 46 0 (am_L0 46 [.ref 36, .ref 1]) [] (mem ch S) (am_is none (mem ch (st6 S E n n))) := by
  have hn := N.2.1
  refine am_aload_n rfl rfl rfl ?_
  refine am_iconst rfl ?_
  refine am_iconst rfl ?_
  refine am_iconst rfl ?_
  refine am_Vx [.int 1, .int 0, .int 0] rfl rfl rfl rfl rfl rfl (s_holdE (d := _) 1 0 0) ?_
  refine am_iconst rfl ?_
  refine am_istore_n rfl ?_
  refine am_Meq (M' := mem ch (st6 S E n 0)) (congrArg (mem ch) (am_up_self (hld S 1 0 0) 22).symm) ?_
  refine am_for (n) (fun v => [some (.ref 36), some (.ref 1), some (.int (nI v))]) (fun v => mem ch (st6 S E n v)) (fun v hv k => ?_) ?_ n 0 (by omega)
  · refine am_iload_n rfl rfl ?_
    refine am_aload_n rfl rfl rfl ?_
    refine am_get rfl rfl rfl ?_
    refine am_get rfl rfl rfl ?_
    refine am_icmp_ge rfl (fun h => absurd h (nd_lt (N.hold (a := 1) (b := 0) (c := 0)).1 N.2.1 hv)) (fun _ => ?_)
    refine am_aload_n rfl rfl rfl ?_
    refine am_get rfl rfl rfl ?_
    refine am_iconst rfl ?_
    refine am_aald (k8 := 2) rfl rfl (Or.inl rfl) rfl (by decide) (by decide) rfl ?_
    refine am_iload_n rfl rfl ?_
    refine am_aload_n rfl rfl rfl ?_
    refine am_get rfl rfl rfl ?_
    refine am_iload_n rfl rfl ?_
    refine am_Vx [.int (nI v)] rfl rfl rfl rfl rfl rfl (s_countN (d := d) (N.hold.up (k := 22) (by decide)) v (by omega)) ?_
    refine am_iast rfl rfl rfl (by omega) (by decide) ?_
    refine am_Meq (M' := mem ch (st6 S E n (v + 1))) ?_ ?_
    · unfold st6
      rw [← pw_s v (fun v => nI (deg E n v)) (pw 12 (fun _ => 0) (S 22))]
      show mem ch (am_up (am_up (hld S 1 0 0) 22 (pw v (fun v => nI (deg E n v)) (pw 12 (fun _ => 0) (S 22)))) 22 (upd (am_up (hld S 1 0 0) 22 (pw v (fun v => nI (deg E n v)) (pw 12 (fun _ => 0) (S 22))) 22) v (nI (deg E n v)))) = _
      rw [am_up_up, am_up_at]
    refine am_iinc rfl rfl ?_
    refine am_goto rfl ?_
    simp only [nI_succ] at k
    exact k
  · refine am_iload_n rfl rfl ?_
    refine am_aload_n rfl rfl rfl ?_
    refine am_get rfl rfl rfl ?_
    refine am_get rfl rfl rfl ?_
    refine am_icmp_ge rfl (fun _ => ?_) (fun h => absurd (nd_ge (N.hold (a := 1) (b := 0) (c := 0)).1 N.2.1) h)
    exact am_return rfl ⟨rfl, rfl⟩
/-- s_over4 -/
theorem s_over4 (N : NetIs S n E) : AW g d 0 0 55 0 (am_L0 55 [.ref 34, .ref 1]) [] (mem ch S) (am_is (some (.int (bi (!anyb (fun v => decide (S 24 v = 0)) n)))) (mem ch S)) := by
  have hn := N.2.1
  refine am_iconst rfl ?_
  refine am_istore_n rfl ?_
  show AW g d 0 0 55 2 [some (.ref 34), some (.ref 1), some (.int (nI 0))] [] (mem ch S) _
  refine am_forI (n) (fun v => [some (.ref 34), some (.ref 1), some (.int (nI v))]) (fun v => mem ch S) (fun v => ∀ u, u < v → ¬ S 24 u = 0) (fun v hv hi k => ?_) (fun hi => ?_) n 0 (by omega) (fun u h => absurd h (Nat.not_lt_zero _))
  · refine am_iload_n rfl rfl ?_
    refine am_aload_n rfl rfl rfl ?_
    refine am_get rfl rfl rfl ?_
    refine am_get rfl rfl rfl ?_
    refine am_icmp_ge rfl (fun h => absurd h (nd_lt N.1 N.2.1 hv)) (fun _ => ?_)
    refine am_aload_n rfl rfl rfl ?_
    refine am_get rfl rfl rfl ?_
    refine am_iconst rfl ?_
    refine am_aald (k8 := 0) rfl rfl (Or.inl rfl) rfl (by decide) (by decide) rfl ?_
    refine am_iload_n rfl rfl ?_
    refine am_iald rfl rfl rfl (by omega) (by decide) ?_
    refine am_if_ne rfl (fun h13 => ?_) (fun h13 => ?_)
    · refine am_iinc rfl rfl ?_
      refine am_goto rfl ?_
      have k := k (fun u hu => by
        by_cases e : u = v
        · rw [e]; exact h13
        · exact hi u (by omega))
      simp only [nI_succ] at k
      exact k
    · refine am_iconst rfl ?_
      refine am_ireturn rfl (fun _ => by decide) ⟨?_, rfl⟩
      rw [show anyb (fun v => decide (S 24 v = 0)) n = true from anyb_true.mpr ⟨v, hv, decide_eq_true h13⟩]
      rfl
  · refine am_iload_n rfl rfl ?_
    refine am_aload_n rfl rfl rfl ?_
    refine am_get rfl rfl rfl ?_
    refine am_get rfl rfl rfl ?_
    refine am_icmp_ge rfl (fun _ => ?_) (fun h => absurd (nd_ge N.1 N.2.1) h)
    refine am_iconst rfl ?_
    refine am_ireturn rfl (fun _ => by decide) ⟨?_, rfl⟩
    rw [anyb_false (p := fun v => decide (S 24 v = 0)) (fun u hu => decide_eq_false (hi u hu))]
    rfl
/-- s_over3 -/
theorem s_over3  : AW g d 0 0 56 0 (am_L0 56 [.ref 33, .ref 1]) [] (mem ch S) (am_is (some (.int (bi (decide (4 ≤ S 1 6))))) (mem ch S)) := by
  refine am_aload_n rfl rfl rfl ?_
  refine am_get rfl rfl rfl ?_
  refine am_iconst rfl ?_
  refine am_icmp_lt rfl (fun h3 => ?_) (fun h3 => ?_)
  · refine am_iconst rfl ?_
    refine am_ireturn rfl (fun _ => by decide) ⟨?_, rfl⟩
    first | (rw [decide_eq_true (Int32.not_lt.mp h3)]; rfl) | (rw [decide_eq_false (Int32.not_le.mpr h3)]; rfl)
  · refine am_iconst rfl ?_
    refine am_goto rfl ?_
    refine am_ireturn rfl (fun _ => by decide) ⟨?_, rfl⟩
    first | (rw [decide_eq_true (Int32.not_lt.mp h3)]; rfl) | (rw [decide_eq_false (Int32.not_le.mpr h3)]; rfl)
/-- Core.drops(v) -/
def drp (S : am_S0) (E : Nat → Nat → Option Nat) (n v : Nat) : Bool := decide (S 24 v = 1) && decide (nI (nbw E n (S 24) v 1) < S 1 5)
theorem s_drops (N : NetIs S n E) (x : Nat) (hx : x < 12) : AW g (d + 2) 0 0 58 0 (am_L0 58 [.ref 1, .int (nI x)]) [] (mem ch S) (am_is (some (.int (bi (drp S E n x)))) (mem ch S)) := by
  refine am_aload_n rfl rfl rfl ?_
  refine am_get rfl rfl rfl ?_
  refine am_iconst rfl ?_
  refine am_aald (k8 := 0) rfl rfl (Or.inl rfl) rfl (by decide) (by decide) rfl ?_
  refine am_iload_n rfl rfl ?_
  refine am_iald rfl rfl rfl hx (by decide) ?_
  refine am_iconst rfl ?_
  refine am_icmp_ne rfl (fun h7 => ?_) (fun h7 => ?_)
  · refine am_iconst rfl ?_
    refine am_ireturn rfl (fun _ => by decide) ⟨?_, rfl⟩
    unfold drp
    first
      | (rw [decide_eq_true h7, decide_eq_true (Int32.not_le.mp h14)]; rfl)
      | (rw [decide_eq_false h7, Bool.false_and]; rfl)
      | (rw [decide_eq_false (Int32.not_lt.mpr h14), Bool.and_false]; rfl)
  · refine am_aload_n rfl rfl rfl ?_
    refine am_iload_n rfl rfl ?_
    refine am_iconst rfl ?_
    refine am_Vx [.int (nI x), .int 1] rfl rfl rfl rfl rfl rfl (s_countNW (d := d) N x hx 1) ?_
    refine am_aload_n rfl rfl rfl ?_
    refine am_get rfl rfl rfl ?_
    refine am_icmp_ge rfl (fun h14 => ?_) (fun h14 => ?_)
    · refine am_iconst rfl ?_
      refine am_ireturn rfl (fun _ => by decide) ⟨?_, rfl⟩
      unfold drp
      first
        | (rw [decide_eq_true h7, decide_eq_true (Int32.not_le.mp h14)]; rfl)
        | (rw [decide_eq_false h7, Bool.false_and]; rfl)
        | (rw [decide_eq_false (Int32.not_lt.mpr h14), Bool.and_false]; rfl)
    · refine am_iconst rfl ?_
      refine am_goto rfl ?_
      refine am_ireturn rfl (fun _ => by decide) ⟨?_, rfl⟩
      unfold drp
      first
        | (rw [decide_eq_true h7, decide_eq_true (Int32.not_le.mp h14)]; rfl)
        | (rw [decide_eq_false h7, Bool.false_and]; rfl)
        | (rw [decide_eq_false (Int32.not_lt.mpr h14), Bool.and_false]; rfl)
/-- s_over6 -/
theorem s_over6 (N : NetIs S n E) : AW g (d + 3) 0 0 57 0 (am_L0 57 [.ref 36, .ref 1]) [] (mem ch S) (am_is (some (.int (bi (!anyb (drp S E n) n)))) (mem ch S)) := by
  have hn := N.2.1
  refine am_iconst rfl ?_
  refine am_istore_n rfl ?_
  show AW g (d + 3) 0 0 57 2 [some (.ref 36), some (.ref 1), some (.int (nI 0))] [] (mem ch S) _
  refine am_forI (n) (fun v => [some (.ref 36), some (.ref 1), some (.int (nI v))]) (fun v => mem ch S) (fun v => ∀ u, u < v → drp S E n u = false) (fun v hv hi k => ?_) (fun hi => ?_) n 0 (by omega) (fun u h => absurd h (Nat.not_lt_zero _))
  · refine am_iload_n rfl rfl ?_
    refine am_aload_n rfl rfl rfl ?_
    refine am_get rfl rfl rfl ?_
    refine am_get rfl rfl rfl ?_
    refine am_icmp_ge rfl (fun h => absurd h (nd_lt N.1 N.2.1 hv)) (fun _ => ?_)
    refine am_aload_n rfl rfl rfl ?_
    refine am_iload_n rfl rfl ?_
    refine am_Sx [.ref 1, .int (nI v)] rfl rfl rfl rfl (s_drops (d := d) N v (by omega)) ?_
    refine am_if_eq rfl (fun h10 => ?_) (fun h10 => ?_)
    · refine am_iinc rfl rfl ?_
      refine am_goto rfl ?_
      have k := k (fun u hu => by
        by_cases e : u = v
        · rw [e]; exact bi_0 h10
        · exact hi u (by omega))
      simp only [nI_succ] at k
      exact k
    · refine am_iconst rfl ?_
      refine am_ireturn rfl (fun _ => by decide) ⟨?_, rfl⟩
      rw [show anyb (drp S E n) n = true from anyb_true.mpr ⟨v, hv, bi_1 h10⟩]
      rfl
  · refine am_iload_n rfl rfl ?_
    refine am_aload_n rfl rfl rfl ?_
    refine am_get rfl rfl rfl ?_
    refine am_get rfl rfl rfl ?_
    refine am_icmp_ge rfl (fun _ => ?_) (fun h => absurd (nd_ge N.1 N.2.1) h)
    refine am_iconst rfl ?_
    refine am_ireturn rfl (fun _ => by decide) ⟨?_, rfl⟩
    rw [anyb_false hi]
    rfl
/-- s_over0 -/
theorem s_over0 (N : NetIs S n E) : AW g (d + 3) 0 0 60 0 (am_L0 60 [.ref 30, .ref 1]) [] (mem ch S) (am_is (some (.int (bi (decide (nI (frl E n (S 27)) = 0))))) (mem ch S)) := by
  refine am_aload_n rfl rfl rfl ?_
  refine am_Vx [] rfl rfl rfl rfl rfl rfl (s_freshL (d := d) N) ?_
  refine am_if_ne rfl (fun h2 => ?_) (fun h2 => ?_)
  · refine am_iconst rfl ?_
    refine am_ireturn rfl (fun _ => by decide) ⟨?_, rfl⟩
    first | (rw [decide_eq_true h2]; rfl) | (rw [decide_eq_false h2]; rfl)
  · refine am_iconst rfl ?_
    refine am_goto rfl ?_
    refine am_ireturn rfl (fun _ => by decide) ⟨?_, rfl⟩
    first | (rw [decide_eq_true h2]; rfl) | (rw [decide_eq_false h2]; rfl)
/-- s_over7 -/
theorem s_over7 (N : NetIs S n E) : AW g (d + 3) 0 0 64 0 (am_L0 64 [.ref 37, .ref 1]) [] (mem ch S) (am_is (some (.int (bi (decide (nI (frl E n (S 27)) = 0))))) (mem ch S)) := by
  refine am_aload_n rfl rfl rfl ?_
  refine am_Vx [] rfl rfl rfl rfl rfl rfl (s_freshL (d := d) N) ?_
  refine am_if_ne rfl (fun h2 => ?_) (fun h2 => ?_)
  · refine am_iconst rfl ?_
    refine am_ireturn rfl (fun _ => by decide) ⟨?_, rfl⟩
    first | (rw [decide_eq_true h2]; rfl) | (rw [decide_eq_false h2]; rfl)
  · refine am_iconst rfl ?_
    refine am_goto rfl ?_
    refine am_ireturn rfl (fun _ => by decide) ⟨?_, rfl⟩
    first | (rw [decide_eq_true h2]; rfl) | (rw [decide_eq_false h2]; rfl)
/-- s_over1 -/
theorem s_over1 (N : NetIs S n E) : AW g (d + 3) 0 0 66 0 (am_L0 66 [.ref 31, .ref 1]) [] (mem ch S) (am_is (some (.int (bi (decide (nI (frl E n (S 27)) = 0))))) (mem ch S)) := by
  refine am_aload_n rfl rfl rfl ?_
  refine am_Vx [] rfl rfl rfl rfl rfl rfl (s_freshL (d := d) N) ?_
  refine am_if_ne rfl (fun h2 => ?_) (fun h2 => ?_)
  · refine am_iconst rfl ?_
    refine am_ireturn rfl (fun _ => by decide) ⟨?_, rfl⟩
    first | (rw [decide_eq_true h2]; rfl) | (rw [decide_eq_false h2]; rfl)
  · refine am_iconst rfl ?_
    refine am_goto rfl ?_
    refine am_ireturn rfl (fun _ => by decide) ⟨?_, rfl⟩
    first | (rw [decide_eq_true h2]; rfl) | (rw [decide_eq_false h2]; rfl)
/-- s_over5 -/
theorem s_over5 (N : NetIs S n E) : AW g (d + 3) 0 0 62 0 (am_L0 62 [.ref 35, .ref 1]) [] (mem ch S) (am_is (some (.int (bi (decide (nI (lam E n (S 24) (-1)) = 0))))) (mem ch S)) := by
  refine am_aload_n rfl rfl rfl ?_
  refine am_iconst rfl ?_
  refine am_Vx [.int (-1)] rfl rfl rfl rfl rfl rfl (s_lettersA (d := d) N (-1)) ?_
  refine am_if_ne rfl (fun h3 => ?_) (fun h3 => ?_)
  · refine am_iconst rfl ?_
    refine am_ireturn rfl (fun _ => by decide) ⟨?_, rfl⟩
    first | (rw [decide_eq_true h3]; rfl) | (rw [decide_eq_false h3]; rfl)
  · refine am_iconst rfl ?_
    refine am_goto rfl ?_
    refine am_ireturn rfl (fun _ => by decide) ⟨?_, rfl⟩
    first | (rw [decide_eq_true h3]; rfl) | (rw [decide_eq_false h3]; rfl)
/-- s_over2 -/
theorem s_over2 (x : Nat) (hx : x < 12) (hr : S 1 5 = nI x) : AW g d 0 0 65 0 (am_L0 65 [.ref 32, .ref 1]) [] (mem ch S) (am_is (some (.int (bi (decide (S 26 x = 1))))) (mem ch S)) := by
  refine am_aload_n rfl rfl rfl ?_
  refine am_get rfl rfl rfl ?_
  refine am_iconst rfl ?_
  refine am_aald (k8 := 2) rfl rfl (Or.inl rfl) rfl (by decide) (by decide) rfl ?_
  refine am_aload_n rfl rfl rfl ?_
  refine am_get rfl rfl rfl ?_
  refine am_iald rfl rfl hr hx (by decide) ?_
  refine am_iconst rfl ?_
  refine am_icmp_ne rfl (fun h8 => ?_) (fun h8 => ?_)
  · refine am_iconst rfl ?_
    refine am_ireturn rfl (fun _ => by decide) ⟨?_, rfl⟩
    first | (rw [decide_eq_true h8]; rfl) | (rw [decide_eq_false h8]; rfl)
  · refine am_iconst rfl ?_
    refine am_goto rfl ?_
    refine am_ireturn rfl (fun _ => by decide) ⟨?_, rfl⟩
    first | (rw [decide_eq_true h8]; rfl) | (rw [decide_eq_false h8]; rfl)
/-- s_let4 -/
theorem s_let4 (N : NetIs S n E) : AW g (d + 3) 0 0 68 0 (am_L0 68 [.ref 34, .ref 1]) [] (mem ch S) (am_is (some (.int (nI (lam E n (S 24) 0)))) (mem ch S)) := by
  refine am_aload_n rfl rfl rfl ?_
  refine am_iconst rfl ?_
  refine am_Vx [.int 0] rfl rfl rfl rfl rfl rfl (s_lettersA (d := d) N 0) ?_
  refine am_ireturn rfl (fun h => absurd h (by decide)) ⟨?_, rfl⟩
  rfl
/-- s_let5 -/
theorem s_let5 (N : NetIs S n E) : AW g (d + 3) 0 0 72 0 (am_L0 72 [.ref 35, .ref 1]) [] (mem ch S) (am_is (some (.int (nI (lam E n (S 24) (-1))))) (mem ch S)) := by
  refine am_aload_n rfl rfl rfl ?_
  refine am_iconst rfl ?_
  refine am_Vx [.int (-1)] rfl rfl rfl rfl rfl rfl (s_lettersA (d := d) N (-1)) ?_
  refine am_ireturn rfl (fun h => absurd h (by decide)) ⟨?_, rfl⟩
  rfl
/-- s_let0 -/
theorem s_let0 (N : NetIs S n E) : AW g (d + 3) 0 0 71 0 (am_L0 71 [.ref 30, .ref 1]) [] (mem ch S) (am_is (some (.int (nI (frl E n (S 27))))) (mem ch S)) := by
  refine am_aload_n rfl rfl rfl ?_
  refine am_Vx [] rfl rfl rfl rfl rfl rfl (s_freshL (d := d) N) ?_
  refine am_ireturn rfl (fun h => absurd h (by decide)) ⟨?_, rfl⟩
  rfl
/-- s_let7 -/
theorem s_let7 (N : NetIs S n E) : AW g (d + 3) 0 0 73 0 (am_L0 73 [.ref 37, .ref 1]) [] (mem ch S) (am_is (some (.int (nI (frl E n (S 27))))) (mem ch S)) := by
  refine am_aload_n rfl rfl rfl ?_
  refine am_Vx [] rfl rfl rfl rfl rfl rfl (s_freshL (d := d) N) ?_
  refine am_ireturn rfl (fun h => absurd h (by decide)) ⟨?_, rfl⟩
  rfl
/-- s_let1 -/
theorem s_let1 (N : NetIs S n E) : AW g (d + 3) 0 0 76 0 (am_L0 76 [.ref 31, .ref 1]) [] (mem ch S) (am_is (some (.int (nI (frl E n (S 27))))) (mem ch S)) := by
  refine am_aload_n rfl rfl rfl ?_
  refine am_Vx [] rfl rfl rfl rfl rfl rfl (s_freshL (d := d) N) ?_
  refine am_ireturn rfl (fun h => absurd h (by decide)) ⟨?_, rfl⟩
  rfl
/-- s_let3 -/
theorem s_let3  : AW g d 0 0 69 0 (am_L0 69 [.ref 33, .ref 1]) [] (mem ch S) (am_is (some (.int (S 2 4 - 1))) (mem ch S)) := by
  refine am_aload_n rfl rfl rfl ?_
  refine am_get rfl rfl rfl ?_
  refine am_get rfl rfl rfl ?_
  refine am_iconst rfl ?_
  refine am_isub rfl ?_
  refine am_ireturn rfl (fun h => absurd h (by decide)) ⟨?_, rfl⟩
  rfl
def let6 (S : am_S0) (E : Nat → Nat → Option Nat) (n k : Nat) : Nat := sm (fun v => if S 27 v = 0 then 0 else nbw E n (S 24) v 1) k
/-- s_let6 -/
theorem s_let6 (N : NetIs S n E) : AW g (d + 2) 0 0 70 0 (am_L0 70 [.ref 36, .ref 1]) [] (mem ch S) (am_is (some (.int (nI (let6 S E n n)))) (mem ch S)) := by
  have hn := N.2.1
  refine am_iconst rfl ?_
  refine am_istore_n rfl ?_
  refine am_iconst rfl ?_
  refine am_istore_n rfl ?_
  show AW g (d + 2) 0 0 70 4 [some (.ref 36), some (.ref 1), some (.int (nI (let6 S E n 0))), some (.int (nI 0))] [] (mem ch S) _
  refine am_for (n) (fun v => [some (.ref 36), some (.ref 1), some (.int (nI (let6 S E n v))), some (.int (nI v))]) (fun v => mem ch S) (fun v hv k => ?_) ?_ n 0 (by omega)
  · refine am_iload_n rfl rfl ?_
    refine am_aload_n rfl rfl rfl ?_
    refine am_get rfl rfl rfl ?_
    refine am_get rfl rfl rfl ?_
    refine am_icmp_ge rfl (fun h => absurd h (nd_lt N.1 N.2.1 hv)) (fun _ => ?_)
    refine am_aload_n rfl rfl rfl ?_
    refine am_get rfl rfl rfl ?_
    refine am_iload_n rfl rfl ?_
    refine am_bald rfl rfl rfl (by omega) (by decide) ?_
    refine am_if_eq rfl (fun h13 => ?_) (fun h13 => ?_)
    · refine am_iinc rfl rfl ?_
      refine am_goto rfl ?_
      unfold let6 at k
      first
        | (simp only [sm, if_pos h13, Nat.add_zero, nI_succ] at k; exact k)
        | (simp only [sm, if_neg h13, nI_succ] at k; exact k)
    · refine am_iload_n rfl rfl ?_
      refine am_aload_n rfl rfl rfl ?_
      refine am_iload_n rfl rfl ?_
      refine am_iconst rfl ?_
      refine am_Vx [.int (nI v), .int 1] rfl rfl rfl rfl rfl rfl (s_countNW (d := d) N v (by omega) 1) ?_
      refine am_iadd rfl ?_
      rw [nI_add]
      refine am_istore_n rfl ?_
      refine am_iinc rfl rfl ?_
      refine am_goto rfl ?_
      unfold let6 at k
      first
        | (simp only [sm, if_pos h13, Nat.add_zero, nI_succ] at k; exact k)
        | (simp only [sm, if_neg h13, nI_succ] at k; exact k)
  · refine am_iload_n rfl rfl ?_
    refine am_aload_n rfl rfl rfl ?_
    refine am_get rfl rfl rfl ?_
    refine am_get rfl rfl rfl ?_
    refine am_icmp_ge rfl (fun _ => ?_) (fun h => absurd (nd_ge N.1 N.2.1) h)
    refine am_iload_n rfl rfl ?_
    refine am_ireturn rfl (fun h => absurd h (by decide)) ⟨?_, rfl⟩
    rfl
/-- Sums.isDue(v) -/
def due (S : am_S0) (v : Nat) : Bool := decide (S 25 v = 0) && decide (S 26 v = 0)
theorem s_due (x : Nat) (hx : x < 12) : AW g d 0 0 75 0 (am_L0 75 [.ref 1, .int (nI x)]) [] (mem ch S) (am_is (some (.int (bi (due S x)))) (mem ch S)) := by
  refine am_aload_n rfl rfl rfl ?_
  refine am_get rfl rfl rfl ?_
  refine am_iconst rfl ?_
  refine am_aald (k8 := 1) rfl rfl (Or.inl rfl) rfl (by decide) (by decide) rfl ?_
  refine am_iload_n rfl rfl ?_
  refine am_iald rfl rfl rfl hx (by decide) ?_
  refine am_if_ne rfl (fun h6 => ?_) (fun h6 => ?_)
  · refine am_iconst rfl ?_
    refine am_ireturn rfl (fun _ => by decide) ⟨?_, rfl⟩
    unfold due
    first
      | (rw [decide_eq_true h6, decide_eq_true h13]; rfl)
      | (rw [decide_eq_false h6, Bool.false_and]; rfl)
      | (rw [decide_eq_false h13, Bool.and_false]; rfl)
  · refine am_aload_n rfl rfl rfl ?_
    refine am_get rfl rfl rfl ?_
    refine am_iconst rfl ?_
    refine am_aald (k8 := 2) rfl rfl (Or.inl rfl) rfl (by decide) (by decide) rfl ?_
    refine am_iload_n rfl rfl ?_
    refine am_iald rfl rfl rfl hx (by decide) ?_
    refine am_if_ne rfl (fun h13 => ?_) (fun h13 => ?_)
    · refine am_iconst rfl ?_
      refine am_ireturn rfl (fun _ => by decide) ⟨?_, rfl⟩
      unfold due
      first
        | (rw [decide_eq_true h6, decide_eq_true h13]; rfl)
        | (rw [decide_eq_false h6, Bool.false_and]; rfl)
        | (rw [decide_eq_false h13, Bool.and_false]; rfl)
    · refine am_iconst rfl ?_
      refine am_goto rfl ?_
      refine am_ireturn rfl (fun _ => by decide) ⟨?_, rfl⟩
      unfold due
      first
        | (rw [decide_eq_true h6, decide_eq_true h13]; rfl)
        | (rw [decide_eq_false h6, Bool.false_and]; rfl)
        | (rw [decide_eq_false h13, Bool.and_false]; rfl)
def let2 (S : am_S0) (k : Nat) : Nat := cnt (fun v => due S v && !decide (S 28 v = -1)) k
/-- s_let2 -/
theorem s_let2 (N : NetIs S n E) : AW g (d + 1) 0 0 74 0 (am_L0 74 [.ref 32, .ref 1]) [] (mem ch S) (am_is (some (.int (nI (let2 S n)))) (mem ch S)) := by
  have hn := N.2.1
  refine am_iconst rfl ?_
  refine am_istore_n rfl ?_
  refine am_iconst rfl ?_
  refine am_istore_n rfl ?_
  show AW g (d + 1) 0 0 74 4 [some (.ref 32), some (.ref 1), some (.int (nI (let2 S 0))), some (.int (nI 0))] [] (mem ch S) _
  refine am_for (n) (fun v => [some (.ref 32), some (.ref 1), some (.int (nI (let2 S v))), some (.int (nI v))]) (fun v => mem ch S) (fun v hv k => ?_) ?_ n 0 (by omega)
  · refine am_iload_n rfl rfl ?_
    refine am_aload_n rfl rfl rfl ?_
    refine am_get rfl rfl rfl ?_
    refine am_get rfl rfl rfl ?_
    refine am_icmp_ge rfl (fun h => absurd h (nd_lt N.1 N.2.1 hv)) (fun _ => ?_)
    refine am_aload_n rfl rfl rfl ?_
    refine am_iload_n rfl rfl ?_
    refine am_Sx [.ref 1, .int (nI v)] rfl rfl rfl rfl (s_due (d := d) v (by omega)) ?_
    refine am_if_eq rfl (fun h12 => ?_) (fun h12 => ?_)
    · refine am_iinc rfl rfl ?_
      refine am_goto rfl ?_
      unfold let2 at k
      first
        | (simp only [cnt, bi_0 h12, Bool.false_and, cond_false, nI_succ] at k; exact k)
        | (simp only [cnt, bi_1 h12, decide_eq_true h18, Bool.not_true, Bool.and_false, cond_false, nI_succ] at k; exact k)
        | (simp only [cnt, bi_1 h12, decide_eq_false h18, Bool.not_false, Bool.and_true, cond_true, nI_succ] at k; exact k)
    · refine am_aload_n rfl rfl rfl ?_
      refine am_get rfl rfl rfl ?_
      refine am_iload_n rfl rfl ?_
      refine am_iald rfl rfl rfl (by omega) (by decide) ?_
      refine am_iconst rfl ?_
      refine am_icmp_eq rfl (fun h18 => ?_) (fun h18 => ?_)
      · refine am_iinc rfl rfl ?_
        refine am_goto rfl ?_
        unfold let2 at k
        first
          | (simp only [cnt, bi_0 h12, Bool.false_and, cond_false, nI_succ] at k; exact k)
          | (simp only [cnt, bi_1 h12, decide_eq_true h18, Bool.not_true, Bool.and_false, cond_false, nI_succ] at k; exact k)
          | (simp only [cnt, bi_1 h12, decide_eq_false h18, Bool.not_false, Bool.and_true, cond_true, nI_succ] at k; exact k)
      · refine am_iinc rfl rfl ?_
        refine am_iinc rfl rfl ?_
        refine am_goto rfl ?_
        unfold let2 at k
        first
          | (simp only [cnt, bi_0 h12, Bool.false_and, cond_false, nI_succ] at k; exact k)
          | (simp only [cnt, bi_1 h12, decide_eq_true h18, Bool.not_true, Bool.and_false, cond_false, nI_succ] at k; exact k)
          | (simp only [cnt, bi_1 h12, decide_eq_false h18, Bool.not_false, Bool.and_true, cond_true, nI_succ] at k; exact k)
  · refine am_iload_n rfl rfl ?_
    refine am_aload_n rfl rfl rfl ?_
    refine am_get rfl rfl rfl ?_
    refine am_get rfl rfl rfl ?_
    refine am_icmp_ge rfl (fun _ => ?_) (fun h => absurd (nd_ge N.1 N.2.1) h)
    refine am_iload_n rfl rfl ?_
    refine am_ireturn rfl (fun h => absurd h (by decide)) ⟨?_, rfl⟩
    rfl
end CALG
