/-! the class: choose, round, run and the reads -/
section CRC
variable {g : am_G} {d : Nat} {ch : Option Nat} {S : am_S0} {n : Nat} {E : Nat → Nat → Option Nat} {k rt : Nat} {p : Nat → Option Nat}
/-- choose(algorithm, root) -/
theorem s_chooseNo (x y : Int32) (h : S 0 3 = 0 ∨ x < 0 ∨ ¬ x < 8) : AW g (d + 1) 0 0 29 0 (am_L0 29 [.ref 0, .int x, .int y]) [] (mem ch S) (am_is (some (.int 0)) (mem ch S)) := by
  refine am_aload_n rfl rfl rfl ?_
  refine am_get rfl rfl rfl ?_
  refine am_if_eq rfl (fun h2 => ?_) (fun h2 => ?_)
  · refine am_iconst rfl ?_
    refine am_ireturn rfl (fun _ => by decide) ⟨?_, rfl⟩
    rfl
  · refine am_iload_n rfl rfl ?_
    refine am_if_lt rfl (fun h4 => ?_) (fun h4 => ?_)
    · refine am_iconst rfl ?_
      refine am_ireturn rfl (fun _ => by decide) ⟨?_, rfl⟩
      rfl
    · refine am_iload_n rfl rfl ?_
      refine am_aload_n rfl rfl rfl ?_
      refine am_get rfl rfl rfl ?_
      refine am_alen3 rfl rfl ?_
      refine am_icmp_lt rfl (fun h9 => ?_) (fun h9 => ?_)
      · exact h.elim (fun q => absurd q h2) (fun q => q.elim (fun q => absurd q h4) (fun q => absurd h9 q))
      · refine am_iconst rfl ?_
        refine am_ireturn rfl (fun _ => by decide) ⟨?_, rfl⟩
        rfl
theorem s_chooseNo2 (hk : k < 8) (y : Int32) (h1 : ¬ S 0 3 = 0) (ht : tkb k S y = false) : AW g (d + 3) 0 0 29 0 (am_L0 29 [.ref 0, .int (nI k), .int y]) [] (mem ch S) (am_is (some (.int 0)) (mem ch S)) := by
  refine am_aload_n rfl rfl rfl ?_
  refine am_get rfl rfl rfl ?_
  refine am_if_eq rfl (fun h => absurd h h1) (fun _ => ?_)
  refine am_iload_n rfl rfl ?_
  refine am_if_lt rfl (fun h => absurd h (nI_pos (by omega))) (fun _ => ?_)
  refine am_iload_n rfl rfl ?_
  refine am_aload_n rfl rfl rfl ?_
  refine am_get rfl rfl rfl ?_
  refine am_alen3 rfl rfl ?_
  refine am_icmp_lt rfl (fun _ => ?_) (fun h => absurd (nI_lt hk (by decide)) h)
  refine am_aload_n rfl rfl rfl ?_
  refine am_get rfl rfl rfl ?_
  refine am_iload_n rfl rfl ?_
  refine am_aald rfl rfl (Or.inr rfl) rfl hk (by decide) (if_pos hk) ?_
  refine am_aload_n rfl rfl rfl ?_
  refine am_get rfl rfl rfl ?_
  refine am_get rfl rfl rfl ?_
  refine am_iload_n rfl rfl ?_
  refine d_takes (d := d + 1) hk y rfl ?_
  rw [ht]
  refine am_if_ne rfl (fun h => absurd rfl h) (fun _ => ?_)
  refine am_iconst rfl ?_
  refine am_ireturn rfl (fun _ => by decide) ⟨?_, rfl⟩
  rfl
def chs (k : Nat) (E : Nat → Nat → Option Nat) (n rt : Nat) (y : Int32) (S : am_S0) : am_S0 := stl (stA k E n rt (rst S y))
theorem NetIs.rst {y : Int32} (N : NetIs S n E) : NetIs (rst S y) n E := (N.up (k := 1) (by decide)).up (k := 27) (by decide)
theorem s_chooseYes (hk : k < 8) (N : NetIs S n E) (y : Int32) (h1 : ¬ S 0 3 = 0) (ht : tkb k S y = true) (hr : k = 1 ∨ k = 2 ∨ k = 3 ∨ k = 7 → rt < n ∧ y = nI rt) : AW g (d + 5) 0 0 29 0 (am_L0 29 [.ref 0, .int (nI k), .int y]) [] (mem ch S) (am_is (some (.int 1)) (mem (some k) (chs k E n rt y S))) := by
  refine am_aload_n rfl rfl rfl ?_
  refine am_get rfl rfl rfl ?_
  refine am_if_eq rfl (fun h => absurd h h1) (fun _ => ?_)
  refine am_iload_n rfl rfl ?_
  refine am_if_lt rfl (fun h => absurd h (nI_pos (by omega))) (fun _ => ?_)
  refine am_iload_n rfl rfl ?_
  refine am_aload_n rfl rfl rfl ?_
  refine am_get rfl rfl rfl ?_
  refine am_alen3 rfl rfl ?_
  refine am_icmp_lt rfl (fun _ => ?_) (fun h => absurd (nI_lt hk (by decide)) h)
  refine am_aload_n rfl rfl rfl ?_
  refine am_get rfl rfl rfl ?_
  refine am_iload_n rfl rfl ?_
  refine am_aald rfl rfl (Or.inr rfl) rfl hk (by decide) (if_pos hk) ?_
  refine am_aload_n rfl rfl rfl ?_
  refine am_get rfl rfl rfl ?_
  refine am_get rfl rfl rfl ?_
  refine am_iload_n rfl rfl ?_
  refine d_takes (d := d + 3) hk y rfl ?_
  rw [ht]
  refine am_if_ne rfl (fun _ => ?_) (fun h => absurd h (by decide))
  refine am_aload_n rfl rfl rfl ?_
  refine am_aload_n rfl rfl rfl ?_
  refine am_get rfl rfl rfl ?_
  refine am_iload_n rfl rfl ?_
  refine am_aald rfl rfl (Or.inr rfl) rfl hk (by decide) (if_pos hk) ?_
  refine am_put rfl rfl (Nat.le_of_ble_eq_true rfl) rfl ?_
  refine am_Meq (M' := mem (some k) S) rfl ?_
  refine am_aload_n rfl rfl rfl ?_
  refine am_get rfl rfl rfl ?_
  refine am_iload_n rfl rfl ?_
  refine am_Vx [.int y] rfl rfl rfl rfl rfl rfl (s_reset (d := d + 3) y) ?_
  refine am_aload_n rfl rfl rfl ?_
  refine am_get rfl rfl rfl ?_
  refine am_aload_n rfl rfl rfl ?_
  refine am_get rfl rfl rfl ?_
  refine d_start (k := k) (n := n) (E := E) (rt := rt) (d := d) hk N.rst hr rfl ?_
  refine am_aload_n rfl rfl rfl ?_
  refine am_get rfl rfl rfl ?_
  refine am_Vx [] rfl rfl rfl rfl rfl rfl (s_settle (d := d + 3)) ?_
  refine am_iconst rfl ?_
  refine am_ireturn rfl (fun _ => by decide) ⟨?_, rfl⟩
  rfl
/-- playRound() -/
def tic (S : am_S0) : am_S0 := am_up S 1 (upd (S 1) 6 (S 1 6 + 1))
def adl (S : am_S0) (x : Int32) : am_S0 := am_up S 1 (upd (S 1) 7 (S 1 7 + x))
def ply (k : Nat) (E : Nat → Nat → Option Nat) (n : Nat) (p : Nat → Option Nat) (S : am_S0) : am_S0 := stl (mrk (adl (chA k E n p (tic S)) (ltr k E n (tic S))) n)
theorem s_play (hk : k < 8) (N : NetIs S n E) (Es : ∀ u w, E u w = E w u) (R : RunIs S n k rt p) : AW g (d + 5) 0 0 67 0 (am_L0 67 [.ref 0]) [] (mem (some k) S) (am_is (some (.int (ltr k E n (tic S)))) (mem (some k) (ply k E n p S))) := by
  unfold ply
  have N1 : NetIs (tic S) n E := N.up (k := 1) (by decide)
  have R1 : RunIs (tic S) n k rt p := R.eq rfl rfl
  refine am_aload_n rfl rfl rfl ?_
  refine am_get rfl rfl rfl ?_
  refine am_dup rfl rfl ?_
  refine am_get rfl rfl rfl ?_
  refine am_iconst rfl ?_
  refine am_iadd rfl ?_
  refine am_put rfl rfl (Nat.le_of_ble_eq_true rfl) rfl ?_
  refine am_Meq (M' := mem (some k) (tic S)) rfl ?_
  generalize tic S = S1 at N1 R1 ⊢
  refine am_aload_n rfl rfl rfl ?_
  refine am_get rfl rfl rfl ?_
  refine am_aload_n rfl rfl rfl ?_
  refine am_get rfl rfl rfl ?_
  refine d_let (d := d) hk N1 rfl ?_
  refine am_istore_n rfl ?_
  refine am_aload_n rfl rfl rfl ?_
  refine am_get rfl rfl rfl ?_
  refine am_aload_n rfl rfl rfl ?_
  refine am_get rfl rfl rfl ?_
  refine d_chg (d := d) hk N1 Es R1 rfl ?_
  have N2 : NetIs (chA k E n p S1) n E := N1.ag (chA_ag k E n p S1)
  generalize chA k E n p S1 = S2 at N2 ⊢
  generalize ltr k E n S1 = x
  refine am_aload_n rfl rfl rfl ?_
  refine am_get rfl rfl rfl ?_
  refine am_dup rfl rfl ?_
  refine am_get rfl rfl rfl ?_
  refine am_iload_n rfl rfl ?_
  refine am_iadd rfl ?_
  refine am_put rfl rfl (Nat.le_of_ble_eq_true rfl) rfl ?_
  refine am_Meq (M' := mem (some k) (adl S2 x)) rfl ?_
  have N3 : NetIs (adl S2 x) n E := N2.up (k := 1) (by decide)
  refine am_aload_n rfl rfl rfl ?_
  refine am_get rfl rfl rfl ?_
  refine am_Vx [] rfl rfl rfl rfl rfl rfl (s_mark (d := d + 4) N3) ?_
  refine am_aload_n rfl rfl rfl ?_
  refine am_get rfl rfl rfl ?_
  refine am_Vx [] rfl rfl rfl rfl rfl rfl (s_settle (d := d + 3)) ?_
  refine am_iload_n rfl rfl ?_
  refine am_ireturn rfl (fun h => absurd h (by decide)) ⟨?_, rfl⟩
  rfl
/-- round() -/
theorem s_round0 : AW g d 0 0 54 0 (am_L0 54 [.ref 0]) [] (mem none S) (am_is (some (.int (-1))) (mem none S)) := by
  refine am_aload_n rfl rfl rfl ?_
  refine am_get rfl rfl rfl ?_
  refine am_ifnull_n rfl ?_
  refine am_iconst rfl ?_
  refine am_ireturn rfl (fun h => absurd h (by decide)) ⟨?_, rfl⟩
  rfl
theorem s_roundOver (hk : k < 8) (N : NetIs S n E) (R : RunIs S n k rt p) (ho : ovr k E n rt S = true) : AW g (d + 6) 0 0 54 0 (am_L0 54 [.ref 0]) [] (mem (some k) S) (am_is (some (.int (-1))) (mem (some k) S)) := by
  refine am_aload_n rfl rfl rfl ?_
  refine am_get rfl rfl rfl ?_
  refine am_ifnull_r rfl ?_
  refine am_aload_n rfl rfl rfl ?_
  refine am_get rfl rfl rfl ?_
  refine am_aload_n rfl rfl rfl ?_
  refine am_get rfl rfl rfl ?_
  refine d_over (d := d + 1) hk N R rfl ?_
  rw [ho]
  refine am_if_eq rfl (fun h => absurd h (by decide)) (fun _ => ?_)
  refine am_iconst rfl ?_
  refine am_ireturn rfl (fun h => absurd h (by decide)) ⟨?_, rfl⟩
  rfl
theorem s_roundPlay (hk : k < 8) (N : NetIs S n E) (Es : ∀ u w, E u w = E w u) (R : RunIs S n k rt p) (ho : ovr k E n rt S = false) : AW g (d + 6) 0 0 54 0 (am_L0 54 [.ref 0]) [] (mem (some k) S) (am_is (some (.int (ltr k E n (tic S)))) (mem (some k) (ply k E n p S))) := by
  refine am_aload_n rfl rfl rfl ?_
  refine am_get rfl rfl rfl ?_
  refine am_ifnull_r rfl ?_
  refine am_aload_n rfl rfl rfl ?_
  refine am_get rfl rfl rfl ?_
  refine am_aload_n rfl rfl rfl ?_
  refine am_get rfl rfl rfl ?_
  refine d_over (d := d + 1) hk N R rfl ?_
  rw [ho]
  refine am_if_eq rfl (fun _ => ?_) (fun h => absurd rfl h)
  refine am_aload_n rfl rfl rfl ?_
  refine am_Vx [] rfl rfl rfl rfl rfl rfl (s_play (d := d) hk N Es R) ?_
  refine am_ireturn rfl (fun h => absurd h (by decide)) ⟨?_, rfl⟩
  rfl
/-- finished() -/
theorem s_fin0 : AW g d 0 0 99 0 (am_L0 99 [.ref 0]) [] (mem none S) (am_is (some (.int 0)) (mem none S)) := by
  refine am_aload_n rfl rfl rfl ?_
  refine am_get rfl rfl rfl ?_
  refine am_ifnull_n rfl ?_
  refine am_iconst rfl ?_
  refine am_ireturn rfl (fun _ => by decide) ⟨?_, rfl⟩
  rfl
theorem s_fin (hk : k < 8) (N : NetIs S n E) (R : RunIs S n k rt p) : AW g (d + 6) 0 0 99 0 (am_L0 99 [.ref 0]) [] (mem (some k) S) (am_is (some (.int (bi (ovr k E n rt S)))) (mem (some k) S)) := by
  refine am_aload_n rfl rfl rfl ?_
  refine am_get rfl rfl rfl ?_
  refine am_ifnull_r rfl ?_
  refine am_aload_n rfl rfl rfl ?_
  refine am_get rfl rfl rfl ?_
  refine am_aload_n rfl rfl rfl ?_
  refine am_get rfl rfl rfl ?_
  refine d_over (d := d + 1) hk N R rfl ?_
  refine am_if_eq rfl (fun h8 => ?_) (fun h8 => ?_)
  · refine am_iconst rfl ?_
    refine am_ireturn rfl (fun _ => by decide) ⟨?_, rfl⟩
    first | (rw [bi_0 h8]; rfl) | (rw [bi_1 h8]; rfl)
  · refine am_iconst rfl ?_
    refine am_goto rfl ?_
    refine am_ireturn rfl (fun _ => by decide) ⟨?_, rfl⟩
    first | (rw [bi_0 h8]; rfl) | (rw [bi_1 h8]; rfl)
/-- rounds() -/
theorem s_rounds0 : AW g d 0 0 100 0 (am_L0 100 [.ref 0]) [] (mem none S) (am_is (some (.int (-1))) (mem none S)) := by
  refine am_aload_n rfl rfl rfl ?_
  refine am_get rfl rfl rfl ?_
  refine am_ifnonnull_n rfl ?_
  refine am_iconst rfl ?_
  refine am_goto rfl ?_
  refine am_ireturn rfl (fun h => absurd h (by decide)) ⟨?_, rfl⟩
  rfl
theorem s_rounds : AW g d 0 0 100 0 (am_L0 100 [.ref 0]) [] (mem (some k) S) (am_is (some (.int (S 1 6))) (mem (some k) S)) := by
  refine am_aload_n rfl rfl rfl ?_
  refine am_get rfl rfl rfl ?_
  refine am_ifnonnull_r rfl ?_
  refine am_aload_n rfl rfl rfl ?_
  refine am_get rfl rfl rfl ?_
  refine am_get rfl rfl rfl ?_
  refine am_ireturn rfl (fun h => absurd h (by decide)) ⟨?_, rfl⟩
  rfl
/-- letters() -/
theorem s_letters0 : AW g d 0 0 101 0 (am_L0 101 [.ref 0]) [] (mem none S) (am_is (some (.int (-1))) (mem none S)) := by
  refine am_aload_n rfl rfl rfl ?_
  refine am_get rfl rfl rfl ?_
  refine am_ifnonnull_n rfl ?_
  refine am_iconst rfl ?_
  refine am_goto rfl ?_
  refine am_ireturn rfl (fun h => absurd h (by decide)) ⟨?_, rfl⟩
  rfl
theorem s_letters : AW g d 0 0 101 0 (am_L0 101 [.ref 0]) [] (mem (some k) S) (am_is (some (.int (S 1 7))) (mem (some k) S)) := by
  refine am_aload_n rfl rfl rfl ?_
  refine am_get rfl rfl rfl ?_
  refine am_ifnonnull_r rfl ?_
  refine am_aload_n rfl rfl rfl ?_
  refine am_get rfl rfl rfl ?_
  refine am_get rfl rfl rfl ?_
  refine am_ireturn rfl (fun h => absurd h (by decide)) ⟨?_, rfl⟩
  rfl
/-- held(v, slot) -/
theorem s_held0 (x y : Int32) : AW g d 0 0 102 0 (am_L0 102 [.ref 0, .int x, .int y]) [] (mem none S) (am_is (some (.int (-2))) (mem none S)) := by
  refine am_aload_n rfl rfl rfl ?_
  refine am_get rfl rfl rfl ?_
  refine am_ifnull_n rfl ?_
  refine am_bipush rfl ?_
  refine am_ireturn rfl (fun h => absurd h (by decide)) ⟨?_, rfl⟩
  rfl
theorem s_heldNo (x y : Int32) (h : (decide (0 ≤ x) && decide (x < S 2 4)) = false ∨ y < 0 ∨ ¬ y < 3) : AW g (d + 1) 0 0 102 0 (am_L0 102 [.ref 0, .int x, .int y]) [] (mem (some k) S) (am_is (some (.int (-2))) (mem (some k) S)) := by
  refine am_aload_n rfl rfl rfl ?_
  refine am_get rfl rfl rfl ?_
  refine am_ifnull_r rfl ?_
  refine am_aload_n rfl rfl rfl ?_
  refine am_get rfl rfl rfl ?_
  refine am_get rfl rfl rfl ?_
  refine am_iload_n rfl rfl ?_
  refine am_Vx [.int x] rfl rfl rfl rfl rfl rfl (s_hasNode (d := d) x) ?_
  refine am_if_eq rfl (fun h8 => ?_) (fun h8 => ?_)
  · refine am_bipush rfl ?_
    refine am_ireturn rfl (fun h => absurd h (by decide)) ⟨?_, rfl⟩
    rfl
  · refine am_iload_n rfl rfl ?_
    refine am_if_lt rfl (fun h10 => ?_) (fun h10 => ?_)
    · refine am_bipush rfl ?_
      refine am_ireturn rfl (fun h => absurd h (by decide)) ⟨?_, rfl⟩
      rfl
    · refine am_iload_n rfl rfl ?_
      refine am_iconst rfl ?_
      refine am_icmp_lt rfl (fun h13 => ?_) (fun h13 => ?_)
      · exact h.elim (fun q => absurd (q.symm.trans (bi_1 h8)) (by decide)) (fun q => q.elim (fun q => absurd q h10) (fun q => absurd h13 q))
      · refine am_bipush rfl ?_
        refine am_ireturn rfl (fun h => absurd h (by decide)) ⟨?_, rfl⟩
        rfl
theorem s_held (hN : S 2 4 = nI n) (hn : n ≤ 12) (v s : Nat) (hv : v < n) (hs : s < 3) : AW g (d + 1) 0 0 102 0 (am_L0 102 [.ref 0, .int (nI v), .int (nI s)]) [] (mem (some k) S) (am_is (some (.int (S (20 + s) v))) (mem (some k) S)) := by
  refine am_aload_n rfl rfl rfl ?_
  refine am_get rfl rfl rfl ?_
  refine am_ifnull_r rfl ?_
  refine am_aload_n rfl rfl rfl ?_
  refine am_get rfl rfl rfl ?_
  refine am_get rfl rfl rfl ?_
  refine am_iload_n rfl rfl ?_
  refine am_Vx [.int (nI v)] rfl rfl rfl rfl rfl rfl (s_hasNode (d := d) (nI v)) ?_
  rw [hasN_to hN hn hv]
  refine am_if_eq rfl (fun h => absurd h (by decide)) (fun _ => ?_)
  refine am_iload_n rfl rfl ?_
  refine am_if_lt rfl (fun h => absurd h (nI_pos (by omega))) (fun _ => ?_)
  refine am_iload_n rfl rfl ?_
  refine am_iconst rfl ?_
  refine am_icmp_lt rfl (fun _ => ?_) (fun h => absurd (nI_lt hs (by decide)) h)
  refine am_aload_n rfl rfl rfl ?_
  refine am_get rfl rfl rfl ?_
  refine am_get rfl rfl rfl ?_
  refine am_iload_n rfl rfl ?_
  refine am_aald rfl rfl (Or.inl rfl) rfl hs (by decide) (if_pos hs) ?_
  refine am_iload_n rfl rfl ?_
  refine am_iald rfl (mem_he s hs) rfl (by omega) (by decide) ?_
  refine am_ireturn rfl (fun h => absurd h (by decide)) ⟨?_, rfl⟩
  rfl
/-- run(limit) -/
theorem NetIs.stl (N : NetIs S n E) : NetIs (stl S) n E := ((N.up (k := 24) (by decide)).up (k := 25) (by decide)).up (k := 26) (by decide)
theorem NetIs.ply (N : NetIs S n E) : NetIs (ply k E n p S) n E := (((((N.up (k := 1) (by decide)).ag (chA_ag k E n p _)).up (k := 1) (by decide)).up (k := 27) (by decide))).stl
theorem ply_28 : ply k E n p S 28 = S 28 := by
  show chA k E n p (tic S) 28 = _
  rw [chA_ag k E n p (tic S) 28 (by decide) (by decide) (by decide)]
  rfl
theorem ply_15 : ply k E n p S 1 5 = S 1 5 := by
  show chA k E n p (tic S) 1 5 = _
  rw [chA_ag k E n p (tic S) 1 (by decide) (by decide) (by decide)]
  rfl
theorem RunIs.ply (R : RunIs S n k rt p) : RunIs (ply k E n p S) n k rt p := R.eq ply_28 ply_15
theorem plys (N : NetIs S n E) (R : RunIs S n k rt p) : ∀ j, NetIs (itr (fun _ => ply k E n p) j S) n E ∧ RunIs (itr (fun _ => ply k E n p) j S) n k rt p
  | 0 => ⟨N, R⟩
  | j + 1 => ⟨(plys N R j).1.ply, (plys N R j).2.ply⟩
theorem s_run0 (x : Int32) : AW g d 0 0 97 0 (am_L0 97 [.ref 0, .int x]) [] (mem none S) (am_is (some (.int (-1))) (mem none S)) := by
  refine am_aload_n rfl rfl rfl ?_
  refine am_get rfl rfl rfl ?_
  refine am_ifnull_n rfl ?_
  refine am_iconst rfl ?_
  refine am_ireturn rfl (fun h => absurd h (by decide)) ⟨?_, rfl⟩
  rfl
theorem s_runNeg (x : Int32) (hx : x < 0) : AW g d 0 0 97 0 (am_L0 97 [.ref 0, .int x]) [] (mem (some k) S) (am_is (some (.int (-1))) (mem (some k) S)) := by
  refine am_aload_n rfl rfl rfl ?_
  refine am_get rfl rfl rfl ?_
  refine am_ifnull_r rfl ?_
  refine am_iload_n rfl rfl ?_
  refine am_if_ge rfl (fun h => absurd hx (Int32.not_lt.mpr h)) (fun _ => ?_)
  refine am_iconst rfl ?_
  refine am_ireturn rfl (fun h => absurd h (by decide)) ⟨?_, rfl⟩
  rfl
theorem min_nI {a b : Nat} (ha : a < 2 ^ 31) (hb : b < 2 ^ 31) : (if nI b < nI a then nI b else nI a) = nI (min a b) := by
  by_cases h : b < a
  · rw [if_pos (nI_lt h ha), Nat.min_eq_right (by omega)]
  · rw [if_neg (nI_nlt (by omega) hb), Nat.min_eq_left (by omega)]
/-- how many rounds: up to b, until it is over -/
def RunTo (k : Nat) (E : Nat → Nat → Option Nat) (n rt : Nat) (p : Nat → Option Nat) (S : am_S0) (b j : Nat) : Prop := j ≤ b ∧ (j = b ∨ ovr k E n rt (itr (fun _ => ply k E n p) j S) = true) ∧ ∀ i, i < j → ovr k E n rt (itr (fun _ => ply k E n p) i S) = false
theorem s_run (hk : k < 8) (N : NetIs S n E) (Es : ∀ u w, E u w = E w u) (R : RunIs S n k rt p) (lim : Nat) (hl : lim < 2 ^ 31) : AW g (d + 6) 0 0 97 0 (am_L0 97 [.ref 0, .int (nI lim)]) [] (mem (some k) S) (fun r M' => ∃ j, RunTo k E n rt p S (min lim 1000) j ∧ r = some (.int (nI j)) ∧ M' = mem (some k) (itr (fun _ => ply k E n p) j S)) := by
  have hb : min lim 1000 ≤ 1000 := Nat.min_le_right _ _
  refine am_aload_n rfl rfl rfl ?_
  refine am_get rfl rfl rfl ?_
  refine am_ifnull_r rfl ?_
  refine am_iload_n rfl rfl ?_
  refine am_if_ge rfl (fun _ => ?_) (fun h => absurd (nI_pos' hl) h)
  refine am_iload_n rfl rfl ?_
  refine am_sipush rfl ?_
  refine am_min rfl (by decide) ?_
  refine am_istore_n rfl ?_
  refine am_iconst rfl ?_
  refine am_istore_n rfl ?_
  rw [show (1000 : Int32) = nI 1000 from rfl, min_nI hl (by decide)]
  generalize min lim 1000 = B at hb ⊢
  show AW g (d + 6) 0 0 97 13 [some (.ref 0), some (.int (nI lim)), some (.int (nI B)), some (.int (nI 0))] [] (mem (some k) (itr (fun _ => ply k E n p) 0 S)) _
  refine am_forI (B) (fun v => [some (.ref 0), some (.int (nI lim)), some (.int (nI B)), some (.int (nI v))]) (fun v => mem (some k) (itr (fun _ => ply k E n p) v S)) (fun v => ∀ i, i < v → ovr k E n rt (itr (fun _ => ply k E n p) i S) = false) (fun v hv hi k => ?_) (fun hi => ?_) B 0 (by omega) (fun i h => absurd h (Nat.not_lt_zero _))
  · refine am_iload_n rfl rfl ?_
    refine am_iload_n rfl rfl ?_
    refine am_icmp_ge rfl (fun h => absurd h (nI_ge hv (by omega))) (fun _ => ?_)
    refine am_aload_n rfl rfl rfl ?_
    refine am_get rfl rfl rfl ?_
    refine am_aload_n rfl rfl rfl ?_
    refine am_get rfl rfl rfl ?_
    refine d_over (d := d + 1) hk (plys N R v).1 (plys N R v).2 rfl ?_
    refine am_if_ne rfl (fun h21 => ?_) (fun h21 => ?_)
    · refine am_iload_n rfl rfl ?_
      exact am_ireturn rfl (fun h => absurd h (by decide)) ⟨v, ⟨by omega, Or.inr (bi_1 h21), hi⟩, rfl, rfl⟩
    · refine am_aload_n rfl rfl rfl ?_
      refine am_Vx [] rfl rfl rfl rfl rfl rfl (s_play (d := d) hk (plys N R v).1 Es (plys N R v).2) ?_
      refine am_pop rfl rfl ?_
      refine am_iinc rfl rfl ?_
      refine am_goto rfl ?_
      have k := k (fun i hi2 => by
        by_cases e : i = v
        · rw [e]; exact bi_0 h21
        · exact hi i (by omega))
      rw [itr_s] at k
      simp only [nI_succ] at k
      exact k
  · refine am_iload_n rfl rfl ?_
    refine am_iload_n rfl rfl ?_
    refine am_icmp_ge rfl (fun _ => ?_) (fun h => absurd (nI_le (Nat.le_refl _) (by omega)) h)
    refine am_iload_n rfl rfl ?_
    exact am_ireturn rfl (fun h => absurd h (by decide)) ⟨B, ⟨Nat.le_refl _, Or.inl rfl, hi⟩, rfl, rfl⟩
end CRC
