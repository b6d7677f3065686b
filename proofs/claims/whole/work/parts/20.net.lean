/-! the class: Net -/
section CNET
variable {g : am_G} {d : Nat} {ch : Option Nat} {S : am_S0} {n : Nat} {E : Nat → Nat → Option Nat}
/-- hasNode(v) -/
theorem s_hasNode (x : Int32) : AW g d 0 0 20 0 (am_L0 20 [.ref 2, .int x]) [] (mem ch S) (am_is (some (.int (bi (decide (0 ≤ x) && decide (x < S 2 4))))) (mem ch S)) := by
  refine am_iload_n rfl rfl ?_
  refine am_if_lt rfl (fun h1 => ?_) (fun h1 => ?_)
  · refine am_iconst rfl ?_
    refine am_ireturn rfl (fun _ => by decide) ⟨?_, rfl⟩
    first | rw [decide_eq_true (Int32.not_lt.mp h1), decide_eq_true (Int32.not_le.mp h5)]; rfl | rw [decide_eq_false (fun q => absurd q (Int32.not_lt.mpr h5)), Bool.and_false]; rfl | rw [decide_eq_false (fun q => absurd h1 (Int32.not_lt.mpr q)), Bool.false_and]; rfl
  · refine am_iload_n rfl rfl ?_
    refine am_aload_n rfl rfl rfl ?_
    refine am_get rfl rfl rfl ?_
    refine am_icmp_ge rfl (fun h5 => ?_) (fun h5 => ?_)
    · refine am_iconst rfl ?_
      refine am_ireturn rfl (fun _ => by decide) ⟨?_, rfl⟩
      first | rw [decide_eq_true (Int32.not_lt.mp h1), decide_eq_true (Int32.not_le.mp h5)]; rfl | rw [decide_eq_false (fun q => absurd q (Int32.not_lt.mpr h5)), Bool.and_false]; rfl | rw [decide_eq_false (fun q => absurd h1 (Int32.not_lt.mpr q)), Bool.false_and]; rfl
    · refine am_iconst rfl ?_
      refine am_goto rfl ?_
      refine am_ireturn rfl (fun _ => by decide) ⟨?_, rfl⟩
      first | rw [decide_eq_true (Int32.not_lt.mp h1), decide_eq_true (Int32.not_le.mp h5)]; rfl | rw [decide_eq_false (fun q => absurd q (Int32.not_lt.mpr h5)), Bool.and_false]; rfl | rw [decide_eq_false (fun q => absurd h1 (Int32.not_lt.mpr q)), Bool.false_and]; rfl
/-- areNeighbours(a, b) -/
theorem s_areN (N : NetIs S n E) (u w : Nat) (hu : u < 12) (hw : w < 12) : AW g d 0 0 21 0 (am_L0 21 [.ref 2, .int (nI u), .int (nI w)]) [] (mem ch S) (am_is (some (.int (bi (E u w).isSome))) (mem ch S)) := by
  refine am_aload_n rfl rfl rfl ?_
  refine am_get rfl rfl rfl ?_
  refine am_iload_n rfl rfl ?_
  refine am_aald rfl rfl (Or.inl rfl) rfl hu (by decide) (if_pos hu) ?_
  refine am_iload_n rfl rfl ?_
  refine am_iald rfl (mem_eb u hu) rfl hw (by decide) ?_
  refine am_iconst rfl ?_
  rw [N.2.2.1 u w hu hw]
  refine am_icmp_eq rfl (fun h7 => ?_) (fun h7 => ?_)
  · rw [em_n1 (N.2.2.2 u w)] at h7
    refine am_iconst rfl ?_
    exact am_ireturn rfl (fun _ => by decide) ⟨by rw [h7]; rfl, rfl⟩
  · rw [em_n1 (N.2.2.2 u w)] at h7
    refine am_iconst rfl ?_
    refine am_goto rfl ?_
    exact am_ireturn rfl (fun _ => by decide) ⟨by rw [Option.isSome_iff_ne_none.mpr h7]; rfl, rfl⟩
/-- weightBetween(a, b) -/
theorem s_weightB (N : NetIs S n E) (u w e : Nat) (hu : u < 12) (hw : w < 12) (he : E u w = some e) : AW g d 0 0 95 0 (am_L0 95 [.ref 2, .int (nI u), .int (nI w)]) [] (mem ch S) (am_is (some (.int (S 4 e))) (mem ch S)) := by
  refine am_aload_n rfl rfl rfl ?_
  refine am_get rfl rfl rfl ?_
  refine am_aload_n rfl rfl rfl ?_
  refine am_get rfl rfl rfl ?_
  refine am_iload_n rfl rfl ?_
  refine am_aald rfl rfl (Or.inl rfl) rfl hu (by decide) (if_pos hu) ?_
  refine am_iload_n rfl rfl ?_
  refine am_iald rfl (mem_eb u hu) rfl hw (by decide) ?_
  refine am_iald rfl rfl (by rw [N.2.2.1 u w hu hw, he]; rfl) (N.2.2.2 u w e he) (by decide) ?_
  refine am_ireturn rfl (fun h => absurd h (by decide)) ⟨?_, rfl⟩
  rfl
/-- countNeighbours(v) -/
theorem s_countN (N : NetIs S n E) (x : Nat) (hx : x < 12) : AW g (d + 1) 0 0 47 0 (am_L0 47 [.ref 2, .int (nI x)]) [] (mem ch S) (am_is (some (.int (nI (cnt (fun u => (E x u).isSome) n)))) (mem ch S)) := by
  have hn := N.2.1
  refine am_iconst rfl ?_
  refine am_istore_n rfl ?_
  refine am_iconst rfl ?_
  refine am_istore_n rfl ?_
  show AW g (d + 1) 0 0 47 4 [some (.ref 2), some (.int (nI x)), some (.int (nI (cnt (fun u => (E x u).isSome) 0))), some (.int (nI 0))] [] (mem ch S) _
  refine am_for (n) (fun v => [some (.ref 2), some (.int (nI x)), some (.int (nI (cnt (fun u => (E x u).isSome) v))), some (.int (nI v))]) (fun v => mem ch S) (fun v hv k => ?_) ?_ n 0 (by omega)
  · refine am_iload_n rfl rfl ?_
    refine am_aload_n rfl rfl rfl ?_
    refine am_get rfl rfl rfl ?_
    refine am_icmp_ge rfl (fun h => absurd h (nd_lt N.1 N.2.1 hv)) (fun _ => ?_)
    refine am_aload_n rfl rfl rfl ?_
    refine am_iload_n rfl rfl ?_
    refine am_iload_n rfl rfl ?_
    refine am_Vx [.int (nI x), .int (nI v)] rfl rfl rfl rfl rfl rfl (s_areN N x v hx (by omega)) ?_
    refine am_if_eq rfl (fun h12 => ?_) (fun h12 => ?_)
    · refine am_iinc rfl rfl ?_
      refine am_goto rfl ?_
      first
        | (simp only [cnt, bi_0 h12, cond_false, nI_succ] at k; exact k)
        | (simp only [cnt, bi_1 h12, cond_true, nI_succ] at k; exact k)
    · refine am_iinc rfl rfl ?_
      refine am_iinc rfl rfl ?_
      refine am_goto rfl ?_
      first
        | (simp only [cnt, bi_0 h12, cond_false, nI_succ] at k; exact k)
        | (simp only [cnt, bi_1 h12, cond_true, nI_succ] at k; exact k)
  · refine am_iload_n rfl rfl ?_
    refine am_aload_n rfl rfl rfl ?_
    refine am_get rfl rfl rfl ?_
    refine am_icmp_ge rfl (fun _ => ?_) (fun h => absurd (nd_ge N.1 N.2.1) h)
    refine am_iload_n rfl rfl ?_
    refine am_ireturn rfl (fun h => absurd h (by decide)) ⟨?_, rfl⟩
    rfl
/-- isHeavier(edge, other) -/
def hvy (w : Nat → Int32) (e f : Nat) : Bool := bif decide (w e = w f) then decide (e < f) else decide (w f < w e)
theorem s_heavier (e f : Nat) (he : e < 24) (hf : f < 24) : AW g d 0 0 88 0 (am_L0 88 [.ref 2, .int (nI e), .int (nI f)]) [] (mem ch S) (am_is (some (.int (bi (hvy (S 4) e f)))) (mem ch S)) := by
  refine am_aload_n rfl rfl rfl ?_
  refine am_get rfl rfl rfl ?_
  refine am_iload_n rfl rfl ?_
  refine am_iald rfl rfl rfl (by omega) (by decide) ?_
  refine am_aload_n rfl rfl rfl ?_
  refine am_get rfl rfl rfl ?_
  refine am_iload_n rfl rfl ?_
  refine am_iald rfl rfl rfl (by omega) (by decide) ?_
  refine am_icmp_eq rfl (fun h8 => ?_) (fun h8 => ?_)
  · refine am_iload_n rfl rfl ?_
    refine am_iload_n rfl rfl ?_
    refine am_icmp_ge rfl (fun h24 => ?_) (fun h24 => ?_)
    · refine am_iconst rfl ?_
      refine am_ireturn rfl (fun _ => by decide) ⟨?_, rfl⟩
      unfold hvy
      rw [decide_eq_true h8]
      rw [nI_leI (by omega) (by omega)] at h24
      first | rw [decide_eq_true (Nat.not_le.mp h24)]; rfl | rw [decide_eq_false (Nat.not_lt.mpr h24)]; rfl
    · refine am_iconst rfl ?_
      refine am_goto rfl ?_
      refine am_ireturn rfl (fun _ => by decide) ⟨?_, rfl⟩
      unfold hvy
      rw [decide_eq_true h8]
      rw [nI_leI (by omega) (by omega)] at h24
      first | rw [decide_eq_true (Nat.not_le.mp h24)]; rfl | rw [decide_eq_false (Nat.not_lt.mpr h24)]; rfl
  · refine am_aload_n rfl rfl rfl ?_
    refine am_get rfl rfl rfl ?_
    refine am_iload_n rfl rfl ?_
    refine am_iald rfl rfl rfl (by omega) (by decide) ?_
    refine am_aload_n rfl rfl rfl ?_
    refine am_get rfl rfl rfl ?_
    refine am_iload_n rfl rfl ?_
    refine am_iald rfl rfl rfl (by omega) (by decide) ?_
    refine am_icmp_le rfl (fun h17 => ?_) (fun h17 => ?_)
    · refine am_iconst rfl ?_
      refine am_ireturn rfl (fun _ => by decide) ⟨?_, rfl⟩
      unfold hvy
      rw [decide_eq_false h8]
      first | rw [decide_eq_true (Int32.not_le.mp h17)]; rfl | rw [decide_eq_false (Int32.not_lt.mpr h17)]; rfl
    · refine am_iconst rfl ?_
      refine am_goto rfl ?_
      refine am_ireturn rfl (fun _ => by decide) ⟨?_, rfl⟩
      unfold hvy
      rw [decide_eq_false h8]
      first | rw [decide_eq_true (Int32.not_le.mp h17)]; rfl | rw [decide_eq_false (Int32.not_lt.mpr h17)]; rfl
/-- hasTwins() -/
def twn (ids : Nat → Int32) (n : Nat) : Bool := anyb (fun a => anyb (fun b => decide (a < b) && decide (ids a = ids b)) n) n
theorem s_twins (N : NetIs S n E) : AW g d 0 0 28 0 (am_L0 28 [.ref 2]) [] (mem ch S) (am_is (some (.int (bi (twn (S 3) n)))) (mem ch S)) := by
  have hn := N.2.1
  refine am_iconst rfl ?_
  refine am_istore_n rfl ?_
  show AW g d 0 0 28 2 [some (.ref 2), some (.int (nI 0)), none] [] (mem ch S) _
  have key : ∀ (y : Option Value), AW g d 0 0 28 2 [some (.ref 2), some (.int (nI 0)), y] [] (mem ch S) (am_is (some (.int (bi (twn (S 3) n)))) (mem ch S)) := by
    intro y
    refine am_forS n (fun v y => [some (.ref 2), some (.int (nI v)), y]) (fun _ _ => mem ch S) (fun v _ => ∀ a b, a < v → a < b → b < n → ¬ S 3 a = S 3 b) (fun v y hv hi k => ?_) (fun y hi => ?_) n 0 y (by omega) (fun a b h => absurd h (Nat.not_lt_zero _))
    · refine am_iload_n rfl rfl ?_
      refine am_aload_n rfl rfl rfl ?_
      refine am_get rfl rfl rfl ?_
      refine am_icmp_ge rfl (fun h => absurd h (nd_lt N.1 N.2.1 hv)) (fun _ => ?_)
      refine am_iload_n rfl rfl ?_
      refine am_iconst rfl ?_
      refine am_iadd rfl ?_
      refine am_istore_n rfl ?_
      rw [nI_1]
      show AW g d 0 0 28 10 [some (.ref 2), some (.int (nI v)), some (.int (nI (v + 1)))] [] (mem ch S) _
      have hv0 := hv
      have hi0 := hi
      have k0 := k
      refine am_forI (n) (fun w => [some (.ref 2), some (.int (nI v)), some (.int (nI w))]) (fun w => mem ch S) (fun w => v + 1 ≤ w ∧ ∀ b, v < b → b < w → ¬ S 3 v = S 3 b) (fun w hv hi k => ?_) (fun hi => ?_) (n - (v + 1)) (v + 1) (by omega) ⟨Nat.le_refl _, fun b h1 h2 => absurd h2 (by omega)⟩
      · have hi2 := hi
        refine am_iload_n rfl rfl ?_
        refine am_aload_n rfl rfl rfl ?_
        refine am_get rfl rfl rfl ?_
        refine am_icmp_ge rfl (fun h => absurd h (nd_lt N.1 N.2.1 hv)) (fun _ => ?_)
        refine am_aload_n rfl rfl rfl ?_
        refine am_get rfl rfl rfl ?_
        refine am_iload_n rfl rfl ?_
        refine am_iald rfl rfl rfl (by omega) (by decide) ?_
        refine am_aload_n rfl rfl rfl ?_
        refine am_get rfl rfl rfl ?_
        refine am_iload_n rfl rfl ?_
        refine am_iald rfl rfl rfl (by omega) (by decide) ?_
        refine am_icmp_ne rfl (fun h22 => ?_) (fun h22 => ?_)
        · refine am_iinc rfl rfl ?_
          refine am_goto rfl ?_
          have k := k ⟨by omega, fun b h1 h2 => by
            by_cases e : b = w
            · rw [e]; exact h22
            · exact hi2.2 b h1 (by omega)⟩
          simp only [nI_succ] at k
          exact k
        · refine am_iconst rfl ?_
          refine am_ireturn rfl (fun _ => by decide) ⟨?_, rfl⟩
          have e : twn (S 3) n = true := anyb_true.mpr ⟨v, hv0, anyb_true.mpr ⟨w, hv, by simp only [decide_eq_true (show v < w by omega), Bool.true_and]; exact decide_eq_true h22⟩⟩
          rw [e]
          rfl
      · refine am_iload_n rfl rfl ?_
        refine am_aload_n rfl rfl rfl ?_
        refine am_get rfl rfl rfl ?_
        refine am_icmp_ge rfl (fun _ => ?_) (fun h => absurd (nd_ge N.1 N.2.1) h)
        refine am_iinc rfl rfl ?_
        refine am_goto rfl ?_
        have k := k0 (some (.int (nI n))) (fun a b h1 h2 h3 => by
          by_cases e : a = v
          · subst e; exact hi.2 b h2 h3
          · exact hi0 a b (by omega) h2 h3)
        simp only [nI_succ] at k
        exact k
    · refine am_iload_n rfl rfl ?_
      refine am_aload_n rfl rfl rfl ?_
      refine am_get rfl rfl rfl ?_
      refine am_icmp_ge rfl (fun _ => ?_) (fun h => absurd (nd_ge N.1 N.2.1) h)
      refine am_iconst rfl ?_
      refine am_ireturn rfl (fun _ => by decide) ⟨?_, rfl⟩
      have e : twn (S 3) n = false := anyb_false (fun a ha => anyb_false (fun b hb => by
        by_cases h : a < b
        · rw [decide_eq_false (hi a b ha h hb), Bool.and_false]
        · rw [decide_eq_false h, Bool.false_and]))
      rw [e]
      rfl
  exact key none
/-- Arrays.fill(a, x) -/
theorem s_fill {M : am_M} {o : Nat} {N : Nat} {f : Nat → Int32} (ho : M[o]? = some (.inl (0, N, .inl f))) (hN : N < 2 ^ 31) (x : Int32) : AW g d 0 0 6 0 (am_L0 6 [.ref o, .int x]) [] M (am_is none (M.set o (.inl (0, N, .inl (fil N x f))))) := by
  have hl : o < M.length := (List.getElem?_eq_some_iff.mp ho).1
  have e0 : M.set o (.inl (0, N, .inl (fil 0 x f))) = M := by
    rw [fil_0]
    apply List.ext_getElem?
    intro j
    by_cases e : o = j
    · subst e
      rw [List.getElem?_set_self hl, ho]
    · rw [List.getElem?_set_ne e]
  refine am_iconst rfl ?_
  refine am_istore_n rfl ?_
  refine am_aload_n rfl rfl rfl ?_
  refine am_alen rfl ho ?_
  refine am_istore_n rfl ?_
  show AW g d 0 0 6 5 [some (.ref o), some (.int x), some (.int (nI 0)), some (.int (nI N))] [] M _
  refine am_Meq e0.symm ?_
  refine am_for (N) (fun v => [some (.ref o), some (.int x), some (.int (nI v)), some (.int (nI N))]) (fun v => M.set o (.inl (0, N, .inl (fil v x f)))) (fun v hv k => ?_) ?_ N 0 (by omega)
  · refine am_iload_n rfl rfl ?_
    refine am_iload_n rfl rfl ?_
    refine am_icmp_ge rfl (fun h => absurd h (nI_ge hv hN)) (fun _ => ?_)
    refine am_aload_n rfl rfl rfl ?_
    refine am_iload_n rfl rfl ?_
    refine am_iload_n rfl rfl ?_
    refine am_iast rfl (List.getElem?_set_self hl) rfl hv hN ?_
    refine am_iinc rfl rfl ?_
    refine am_goto rfl ?_
    simp only [nI_succ] at k
    rw [List.set_set, fil_s]
    exact k
  · refine am_iload_n rfl rfl ?_
    refine am_iload_n rfl rfl ?_
    refine am_icmp_ge rfl (fun _ => ?_) (fun h => absurd (nI_le (Nat.le_refl _) hN) h)
    exact am_return rfl ⟨rfl, rfl⟩
/-- reachNeighbours(v) -/
theorem s_reach (N : NetIs S n E) (x : Nat) (hx : x < 12) (h1 : ¬ S 18 x = -1) : AW g (d + 1) 0 0 27 0 (am_L0 27 [.ref 2, .int (nI x)]) [] (mem ch S) (am_is none (mem ch (am_up S 18 (rch E x n (S 18))))) := by
  have hn := N.2.1
  refine am_iconst rfl ?_
  refine am_istore_n rfl ?_
  refine am_Meq (M' := mem ch (am_up S 18 (rch E x 0 (S 18)))) (by rw [rch_0, am_up_self]) ?_
  refine am_for (n) (fun v => [some (.ref 2), some (.int (nI x)), some (.int (nI v))]) (fun v => mem ch (am_up S 18 (rch E x v (S 18)))) (fun v hv k => ?_) ?_ n 0 (by omega)
  · refine am_iload_n rfl rfl ?_
    refine am_aload_n rfl rfl rfl ?_
    refine am_get rfl rfl rfl ?_
    refine am_icmp_ge rfl (fun h => absurd h (nd_lt (N.up (k := 18) (by decide)).1 N.2.1 hv)) (fun _ => ?_)
    refine am_aload_n rfl rfl rfl ?_
    refine am_iload_n rfl rfl ?_
    refine am_iload_n rfl rfl ?_
    refine am_Vx [.int (nI x), .int (nI v)] rfl rfl rfl rfl rfl rfl (s_areN (N.up (by decide)) x v hx (by omega)) ?_
    refine am_if_eq rfl (fun h10 => ?_) (fun h10 => ?_)
    · refine am_iinc rfl rfl ?_
      refine am_goto rfl ?_
      have h10 := bi_0 h10
      rw [rch_no (fun q => absurd q.1 (by rw [h10]; decide))] at k
      simp only [nI_succ] at k
      exact k
    · refine am_aload_n rfl rfl rfl ?_
      refine am_get rfl rfl rfl ?_
      refine am_iload_n rfl rfl ?_
      refine am_iald rfl rfl rfl (by omega) (by decide) ?_
      refine am_iconst rfl ?_
      rw [am_up_at, rch_at (Or.inl (Nat.le_refl v))]
      refine am_icmp_ne rfl (fun h16 => ?_) (fun h16 => ?_)
      · rw [rch_no (fun q => h16 q.2)] at k
        refine am_iinc rfl rfl ?_
        refine am_goto rfl ?_
        simp only [nI_succ] at k
        exact k
      · refine am_aload_n rfl rfl rfl ?_
        refine am_get rfl rfl rfl ?_
        refine am_iload_n rfl rfl ?_
        refine am_aload_n rfl rfl rfl ?_
        refine am_get rfl rfl rfl ?_
        refine am_iload_n rfl rfl ?_
        refine am_iald rfl rfl rfl (by omega) (by decide) ?_
        refine am_iconst rfl ?_
        refine am_iadd rfl ?_
        refine am_iast rfl rfl rfl (by omega) (by decide) ?_
        refine am_Meq (M' := mem ch (am_up S 18 (rch E x (v + 1) (S 18)))) ?_ ?_
        · show mem ch (am_up (am_up S 18 (rch E x v (S 18))) 18 (upd (am_up S 18 (rch E x v (S 18)) 18) v (am_up S 18 (rch E x v (S 18)) 18 x + 1))) = _
          rw [am_up_up, am_up_at, rch_at (Or.inr h1), rch_yes (bi_1 h10) h16]
        · refine am_iinc rfl rfl ?_
          refine am_goto rfl ?_
          simp only [nI_succ] at k
          exact k
  · refine am_iload_n rfl rfl ?_
    refine am_aload_n rfl rfl rfl ?_
    refine am_get rfl rfl rfl ?_
    refine am_icmp_ge rfl (fun _ => ?_) (fun h => absurd (nd_ge (N.up (k := 18) (by decide)).1 N.2.1) h)
    exact am_return rfl ⟨rfl, rfl⟩
/-- measureFrom(start) -/
theorem lvl_0 (E : Nat → Nat → Option Nat) (n t : Nat) (f : Nat → Int32) : lvl E n t 0 f = f := rfl
theorem lvl_s (E : Nat → Nat → Option Nat) (n t k : Nat) (f : Nat → Int32) : lvl E n t (k + 1) f = if lvl E n t k f k = nI t then rch E k n (lvl E n t k f) else lvl E n t k f := rfl
theorem msr_s (E : Nat → Nat → Option Nat) (n k : Nat) (f : Nat → Int32) : msr E n (k + 1) f = lvl E n k n (msr E n k f) := rfl
theorem s_measure (N : NetIs S n E) (x : Nat) (hx : x < 12) : AW g (d + 2) 0 0 26 0 (am_L0 26 [.ref 2, .int (nI x)]) [] (mem ch S) (am_is none (mem ch (am_up S 18 (msr E n n (far0 x (S 18)))))) := by
  have hn := N.2.1
  refine am_aload_n rfl rfl rfl ?_
  refine am_get rfl rfl rfl ?_
  refine am_iconst rfl ?_
  refine am_Sx [.ref 18, .int (-1)] rfl rfl rfl rfl (s_fill (d := d + 1) rfl (by decide) (-1)) ?_
  refine am_aload_n rfl rfl rfl ?_
  refine am_get rfl rfl rfl ?_
  refine am_iload_n rfl rfl ?_
  refine am_iconst rfl ?_
  refine am_iast (n := 12) (f := fil 12 (-1) (S 18)) rfl rfl rfl hx (by decide) ?_
  refine am_iconst rfl ?_
  refine am_istore_n rfl ?_
  refine am_Meq (M' := mem ch (am_up S 18 (msr E n 0 (far0 x (S 18))))) rfl ?_
  show AW g (d + 2) 0 0 26 11 [some (.ref 2), some (.int (nI x)), some (.int (nI 0)), none] [] _ _
  have key : ∀ y : Option Value, AW g (d + 2) 0 0 26 11 [some (.ref 2), some (.int (nI x)), some (.int (nI 0)), y] [] (mem ch (am_up S 18 (msr E n 0 (far0 x (S 18))))) (am_is none (mem ch (am_up S 18 (msr E n n (far0 x (S 18)))))) := by
    intro y
    refine am_forS n (fun t y => [some (.ref 2), some (.int (nI x)), some (.int (nI t)), y]) (fun t _ => mem ch (am_up S 18 (msr E n t (far0 x (S 18))))) (fun _ _ => True) (fun t y ht _ k0 => ?_) (fun y _ => ?_) n 0 y (by omega) trivial
    · refine am_iload_n rfl rfl ?_
      refine am_aload_n rfl rfl rfl ?_
      refine am_get rfl rfl rfl ?_
      refine am_icmp_ge rfl (fun h => absurd h (nd_lt (N.up (k := 18) (by decide)).1 N.2.1 ht)) (fun _ => ?_)
      refine am_iconst rfl ?_
      refine am_istore_n rfl ?_
      generalize hF : msr E n t (far0 x (S 18)) = F
      rw [msr_s, hF] at k0
      show AW g (d + 2) 0 0 26 17 [some (.ref 2), some (.int (nI x)), some (.int (nI t)), some (.int (nI 0))] [] (mem ch (am_up S 18 (lvl E n t 0 F))) _
      refine am_for (n) (fun v => [some (.ref 2), some (.int (nI x)), some (.int (nI t)), some (.int (nI v))]) (fun v => mem ch (am_up S 18 (lvl E n t v F))) (fun v hv k => ?_) ?_ n 0 (by omega)
      · refine am_iload_n rfl rfl ?_
        refine am_aload_n rfl rfl rfl ?_
        refine am_get rfl rfl rfl ?_
        refine am_icmp_ge rfl (fun h => absurd h (nd_lt (N.up (k := 18) (by decide)).1 N.2.1 hv)) (fun _ => ?_)
        refine am_aload_n rfl rfl rfl ?_
        refine am_get rfl rfl rfl ?_
        refine am_iload_n rfl rfl ?_
        refine am_iald rfl rfl rfl (by omega) (by decide) ?_
        refine am_iload_n rfl rfl ?_
        refine am_icmp_ne rfl (fun h26 => ?_) (fun h26 => ?_)
        · have h27 : ¬ lvl E n t v F v = nI t := h26
          rw [lvl_s, if_neg h27] at k
          refine am_iinc rfl rfl ?_
          refine am_goto rfl ?_
          simp only [nI_succ] at k
          exact k
        · have h27 : lvl E n t v F v = nI t := h26
          rw [lvl_s, if_pos h27] at k
          refine am_aload_n rfl rfl rfl ?_
          refine am_iload_n rfl rfl ?_
          refine am_Vx [.int (nI v)] rfl rfl rfl rfl rfl rfl (s_reach (d := d) (N.up (k := 18) (by decide)) v (by omega) (by show ¬ lvl E n t v F v = -1; rw [h27]; exact fun q => neg1_nI t (by omega) q.symm)) ?_
          rw [am_up_up]
          refine am_iinc rfl rfl ?_
          refine am_goto rfl ?_
          simp only [nI_succ] at k
          exact k
      · refine am_iload_n rfl rfl ?_
        refine am_aload_n rfl rfl rfl ?_
        refine am_get rfl rfl rfl ?_
        refine am_icmp_ge rfl (fun _ => ?_) (fun h => absurd (nd_ge (N.up (k := 18) (by decide)).1 N.2.1) h)
        refine am_iinc rfl rfl ?_
        refine am_goto rfl ?_
        have k0 := k0 (some (.int (nI n))) trivial
        simp only [nI_succ] at k0
        exact k0
    · refine am_iload_n rfl rfl ?_
      refine am_aload_n rfl rfl rfl ?_
      refine am_get rfl rfl rfl ?_
      refine am_icmp_ge rfl (fun _ => ?_) (fun h => absurd (nd_ge (N.up (k := 18) (by decide)).1 N.2.1) h)
      exact am_return rfl ⟨rfl, rfl⟩
  exact key none
/-- isConnected() -/
theorem s_connected (N : NetIs S n E) : AW g (d + 3) 0 0 25 0 (am_L0 25 [.ref 2]) [] (mem ch S) (am_is (some (.int (bi (!anyb (fun v => decide (msr E n n (far0 0 (S 18)) v = -1)) n)))) (mem ch (am_up S 18 (msr E n n (far0 0 (S 18)))))) := by
  have hn := N.2.1
  refine am_aload_n rfl rfl rfl ?_
  refine am_iconst rfl ?_
  refine am_Vx [.int (nI 0)] rfl rfl rfl rfl rfl rfl (s_measure (d := d) N 0 (by decide)) ?_
  refine am_iconst rfl ?_
  refine am_istore_n rfl ?_
  generalize hF : msr E n n (far0 0 (S 18)) = F
  show AW g (d + 3) 0 0 25 5 [some (.ref 2), some (.int (nI 0))] [] (mem ch (am_up S 18 F)) _
  refine am_forI (n) (fun v => [some (.ref 2), some (.int (nI v))]) (fun v => mem ch (am_up S 18 F)) (fun v => ∀ u, u < v → ¬ F u = -1) (fun v hv hi k => ?_) (fun hi => ?_) n 0 (by omega) (fun u h => absurd h (Nat.not_lt_zero _))
  · refine am_iload_n rfl rfl ?_
    refine am_aload_n rfl rfl rfl ?_
    refine am_get rfl rfl rfl ?_
    refine am_icmp_ge rfl (fun h => absurd h (nd_lt (N.up (k := 18) (by decide)).1 N.2.1 hv)) (fun _ => ?_)
    refine am_aload_n rfl rfl rfl ?_
    refine am_get rfl rfl rfl ?_
    refine am_iload_n rfl rfl ?_
    refine am_iald rfl rfl rfl (by omega) (by decide) ?_
    refine am_iconst rfl ?_
    refine am_icmp_ne rfl (fun h14 => ?_) (fun h14 => ?_)
    · refine am_iinc rfl rfl ?_
      refine am_goto rfl ?_
      have k := k (fun u hu => by
        by_cases e : u = v
        · rw [e]; exact h14
        · exact hi u (by omega))
      simp only [nI_succ] at k
      exact k
    · refine am_iconst rfl ?_
      refine am_ireturn rfl (fun _ => by decide) ⟨?_, rfl⟩
      rw [show anyb (fun v => decide (F v = -1)) n = true from anyb_true.mpr ⟨v, hv, decide_eq_true h14⟩]
      rfl
  · refine am_iload_n rfl rfl ?_
    refine am_aload_n rfl rfl rfl ?_
    refine am_get rfl rfl rfl ?_
    refine am_icmp_ge rfl (fun _ => ?_) (fun h => absurd (nd_ge (N.up (k := 18) (by decide)).1 N.2.1) h)
    refine am_iconst rfl ?_
    refine am_ireturn rfl (fun _ => by decide) ⟨?_, rfl⟩
    rw [anyb_false (p := fun v => decide (F v = -1)) (fun u hu => decide_eq_false (hi u hu))]
    rfl
/-- nearerNeighbour(v) -/
def nrr (E : Nat → Nat → Option Nat) (n : Nat) (f : Nat → Int32) (x : Nat) : Option Nat := bif decide (0 < f x) then fst? (fun u => (E x u).isSome && decide (f u = f x - 1)) n else none
theorem s_nearer (N : NetIs S n E) (x : Nat) (hx : x < 12) : AW g (d + 1) 0 0 45 0 (am_L0 45 [.ref 2, .int (nI x)]) [] (mem ch S) (am_is (some (.int (em (nrr E n (S 18) x)))) (mem ch S)) := by
  have hn := N.2.1
  refine am_aload_n rfl rfl rfl ?_
  refine am_get rfl rfl rfl ?_
  refine am_iload_n rfl rfl ?_
  refine am_iald rfl rfl rfl (by omega) (by decide) ?_
  refine am_if_gt rfl (fun h4 => ?_) (fun h4 => ?_)
  · refine am_iconst rfl ?_
    refine am_istore_n rfl ?_
    show AW g (d + 1) 0 0 45 9 [some (.ref 2), some (.int (nI x)), some (.int (nI 0))] [] (mem ch S) _
    unfold nrr
    rw [decide_eq_true h4, cond_true]
    refine am_forI (n) (fun v => [some (.ref 2), some (.int (nI x)), some (.int (nI v))]) (fun v => mem ch S) (fun v => ∀ u, u < v → ((E x u).isSome && decide (S 18 u = S 18 x - 1)) = false) (fun v hv hi k => ?_) (fun hi => ?_) n 0 (by omega) (fun u h => absurd h (Nat.not_lt_zero _))
    · refine am_iload_n rfl rfl ?_
      refine am_aload_n rfl rfl rfl ?_
      refine am_get rfl rfl rfl ?_
      refine am_icmp_ge rfl (fun h => absurd h (nd_lt N.1 N.2.1 hv)) (fun _ => ?_)
      refine am_aload_n rfl rfl rfl ?_
      refine am_iload_n rfl rfl ?_
      refine am_iload_n rfl rfl ?_
      refine am_Vx [.int (nI x), .int (nI v)] rfl rfl rfl rfl rfl rfl (s_areN N x v hx (by omega)) ?_
      refine am_if_eq rfl (fun h17 => ?_) (fun h17 => ?_)
      · refine am_iinc rfl rfl ?_
        refine am_goto rfl ?_
        have k := k (fun u hu => by
          by_cases e : u = v
          · subst e
            first | rw [bi_0 h17, Bool.false_and] | rw [decide_eq_false h28, Bool.and_false]
          · exact hi u (by omega))
        simp only [nI_succ] at k
        exact k
      · refine am_aload_n rfl rfl rfl ?_
        refine am_get rfl rfl rfl ?_
        refine am_iload_n rfl rfl ?_
        refine am_iald rfl rfl rfl (by omega) (by decide) ?_
        refine am_aload_n rfl rfl rfl ?_
        refine am_get rfl rfl rfl ?_
        refine am_iload_n rfl rfl ?_
        refine am_iald rfl rfl rfl (by omega) (by decide) ?_
        refine am_iconst rfl ?_
        refine am_isub rfl ?_
        refine am_icmp_ne rfl (fun h28 => ?_) (fun h28 => ?_)
        · refine am_iinc rfl rfl ?_
          refine am_goto rfl ?_
          have k := k (fun u hu => by
            by_cases e : u = v
            · subst e
              first | rw [bi_0 h17, Bool.false_and] | rw [decide_eq_false h28, Bool.and_false]
            · exact hi u (by omega))
          simp only [nI_succ] at k
          exact k
        · refine am_iload_n rfl rfl ?_
          refine am_ireturn rfl (fun h => absurd h (by decide)) ⟨?_, rfl⟩
          rw [fst?_some (v := v) (by rw [bi_1 h17, Bool.true_and]; exact decide_eq_true h28) hi hv]
          rfl
    · refine am_iload_n rfl rfl ?_
      refine am_aload_n rfl rfl rfl ?_
      refine am_get rfl rfl rfl ?_
      refine am_icmp_ge rfl (fun _ => ?_) (fun h => absurd (nd_ge N.1 N.2.1) h)
      refine am_iconst rfl ?_
      refine am_ireturn rfl (fun h => absurd h (by decide)) ⟨?_, rfl⟩
      rw [fst?_none hi]
      rfl
  · refine am_iconst rfl ?_
    refine am_ireturn rfl (fun h => absurd h (by decide)) ⟨?_, rfl⟩
    unfold nrr
    rw [decide_eq_false h4, cond_false]
    rfl
/-- a node's number, seen from an int -/
theorem hasN_of {x : Int32} (hN : S 2 4 = nI n) (hn : n ≤ 12) (h : (decide (0 ≤ x) && decide (x < S 2 4)) = true) : ∃ v, v < n ∧ x = nI v := by
  rw [Bool.and_eq_true, decide_eq_true_eq, decide_eq_true_eq] at h
  obtain ⟨v, hv, rfl⟩ := nI_of (Int32.not_lt.mpr h.1)
  rw [hN, nI_ltI hv (by omega)] at h
  exact ⟨v, h.2, rfl⟩
theorem hasN_to {v : Nat} (hN : S 2 4 = nI n) (hn : n ≤ 12) (hv : v < n) : (decide (0 ≤ nI v) && decide (nI v < S 2 4)) = true := by
  rw [Bool.and_eq_true, decide_eq_true_eq, decide_eq_true_eq, hN]
  exact ⟨nI_pos' (by omega), nI_lt hv (by omega)⟩
/-- takesEdge(a, b, weight) -/
def tks (S : am_S0) (E : Nat → Nat → Option Nat) (x y w : Int32) : Bool := decide (S 2 5 < 24) && (decide (0 ≤ x) && decide (x < S 2 4)) && (decide (0 ≤ y) && decide (y < S 2 4)) && !decide (x = y) && !(E x.toNatClampNeg y.toNatClampNeg).isSome && decide (1 ≤ w) && decide (w ≤ 999)
theorem s_takesEdge (N : NetIs S n E) (x y w : Int32) : AW g (d + 1) 0 0 19 0 (am_L0 19 [.ref 2, .int x, .int y, .int w]) [] (mem ch S) (am_is (some (.int (bi (tks S E x y w)))) (mem ch S)) := by
  have hn := N.2.1
  refine am_aload_n rfl rfl rfl ?_
  refine am_get rfl rfl rfl ?_
  refine am_bipush rfl ?_
  refine am_icmp_ge rfl (fun h3 => ?_) (fun h3 => ?_)
  · refine am_iconst rfl ?_
    refine am_ireturn rfl (fun _ => by decide) ⟨?_, rfl⟩
    unfold tks
    first
      | (rw [decide_eq_true (Int32.not_le.mp h3), bi_1 h7, bi_1 h11, decide_eq_false h14, nI_clamp (by omega), nI_clamp (by omega), bi_0 h19, decide_eq_true (Int32.not_lt.mp h22), decide_eq_true (Int32.not_lt.mp h25)]; rfl)
      | (rw [decide_eq_false (Int32.not_lt.mpr h3)]; rfl)
      | (rw [bi_0 h7]; simp [bi]; done)
      | (rw [bi_0 h11]; simp [bi]; done)
      | (rw [decide_eq_true h14]; simp [bi]; done)
      | (rw [nI_clamp (by omega), nI_clamp (by omega), bi_1 h19]; simp [bi]; done)
      | (rw [decide_eq_false (Int32.not_le.mpr h22)]; simp [bi]; done)
      | (rw [decide_eq_false (Int32.not_le.mpr h25)]; simp [bi]; done)
  · refine am_aload_n rfl rfl rfl ?_
    refine am_iload_n rfl rfl ?_
    refine am_Vx [.int x] rfl rfl rfl rfl rfl rfl (s_hasNode (d := d) x) ?_
    refine am_if_eq rfl (fun h7 => ?_) (fun h7 => ?_)
    · refine am_iconst rfl ?_
      refine am_ireturn rfl (fun _ => by decide) ⟨?_, rfl⟩
      unfold tks
      first
        | (rw [decide_eq_true (Int32.not_le.mp h3), bi_1 h7, bi_1 h11, decide_eq_false h14, nI_clamp (by omega), nI_clamp (by omega), bi_0 h19, decide_eq_true (Int32.not_lt.mp h22), decide_eq_true (Int32.not_lt.mp h25)]; rfl)
        | (rw [decide_eq_false (Int32.not_lt.mpr h3)]; rfl)
        | (rw [bi_0 h7]; simp [bi]; done)
        | (rw [bi_0 h11]; simp [bi]; done)
        | (rw [decide_eq_true h14]; simp [bi]; done)
        | (rw [nI_clamp (by omega), nI_clamp (by omega), bi_1 h19]; simp [bi]; done)
        | (rw [decide_eq_false (Int32.not_le.mpr h22)]; simp [bi]; done)
        | (rw [decide_eq_false (Int32.not_le.mpr h25)]; simp [bi]; done)
    · refine am_aload_n rfl rfl rfl ?_
      refine am_iload_n rfl rfl ?_
      refine am_Vx [.int y] rfl rfl rfl rfl rfl rfl (s_hasNode (d := d) y) ?_
      refine am_if_eq rfl (fun h11 => ?_) (fun h11 => ?_)
      · refine am_iconst rfl ?_
        refine am_ireturn rfl (fun _ => by decide) ⟨?_, rfl⟩
        unfold tks
        first
          | (rw [decide_eq_true (Int32.not_le.mp h3), bi_1 h7, bi_1 h11, decide_eq_false h14, nI_clamp (by omega), nI_clamp (by omega), bi_0 h19, decide_eq_true (Int32.not_lt.mp h22), decide_eq_true (Int32.not_lt.mp h25)]; rfl)
          | (rw [decide_eq_false (Int32.not_lt.mpr h3)]; rfl)
          | (rw [bi_0 h7]; simp [bi]; done)
          | (rw [bi_0 h11]; simp [bi]; done)
          | (rw [decide_eq_true h14]; simp [bi]; done)
          | (rw [nI_clamp (by omega), nI_clamp (by omega), bi_1 h19]; simp [bi]; done)
          | (rw [decide_eq_false (Int32.not_le.mpr h22)]; simp [bi]; done)
          | (rw [decide_eq_false (Int32.not_le.mpr h25)]; simp [bi]; done)
      · refine am_iload_n rfl rfl ?_
        refine am_iload_n rfl rfl ?_
        refine am_icmp_eq rfl (fun h14 => ?_) (fun h14 => ?_)
        · refine am_iconst rfl ?_
          refine am_ireturn rfl (fun _ => by decide) ⟨?_, rfl⟩
          unfold tks
          first
            | (rw [decide_eq_true (Int32.not_le.mp h3), bi_1 h7, bi_1 h11, decide_eq_false h14, nI_clamp (by omega), nI_clamp (by omega), bi_0 h19, decide_eq_true (Int32.not_lt.mp h22), decide_eq_true (Int32.not_lt.mp h25)]; rfl)
            | (rw [decide_eq_false (Int32.not_lt.mpr h3)]; rfl)
            | (rw [bi_0 h7]; simp [bi]; done)
            | (rw [bi_0 h11]; simp [bi]; done)
            | (rw [decide_eq_true h14]; simp [bi]; done)
            | (rw [nI_clamp (by omega), nI_clamp (by omega), bi_1 h19]; simp [bi]; done)
            | (rw [decide_eq_false (Int32.not_le.mpr h22)]; simp [bi]; done)
            | (rw [decide_eq_false (Int32.not_le.mpr h25)]; simp [bi]; done)
        · refine am_aload_n rfl rfl rfl ?_
          refine am_iload_n rfl rfl ?_
          refine am_iload_n rfl rfl ?_
          obtain ⟨a, ha, rfl⟩ := hasN_of N.1 hn (bi_1 h7)
          obtain ⟨b, hb, rfl⟩ := hasN_of N.1 hn (bi_1 h11)
          refine am_Vx [.int (nI a), .int (nI b)] rfl rfl rfl rfl rfl rfl (s_areN N a b (by omega) (by omega)) ?_
          refine am_if_ne rfl (fun h19 => ?_) (fun h19 => ?_)
          · refine am_iconst rfl ?_
            refine am_ireturn rfl (fun _ => by decide) ⟨?_, rfl⟩
            unfold tks
            first
              | (rw [decide_eq_true (Int32.not_le.mp h3), bi_1 h7, bi_1 h11, decide_eq_false h14, nI_clamp (by omega), nI_clamp (by omega), bi_0 h19, decide_eq_true (Int32.not_lt.mp h22), decide_eq_true (Int32.not_lt.mp h25)]; rfl)
              | (rw [decide_eq_false (Int32.not_lt.mpr h3)]; rfl)
              | (rw [bi_0 h7]; simp [bi]; done)
              | (rw [bi_0 h11]; simp [bi]; done)
              | (rw [decide_eq_true h14]; simp [bi]; done)
              | (rw [nI_clamp (by omega), nI_clamp (by omega), bi_1 h19]; simp [bi]; done)
              | (rw [decide_eq_false (Int32.not_le.mpr h22)]; simp [bi]; done)
              | (rw [decide_eq_false (Int32.not_le.mpr h25)]; simp [bi]; done)
          · refine am_iload_n rfl rfl ?_
            refine am_iconst rfl ?_
            refine am_icmp_lt rfl (fun h22 => ?_) (fun h22 => ?_)
            · refine am_iconst rfl ?_
              refine am_ireturn rfl (fun _ => by decide) ⟨?_, rfl⟩
              unfold tks
              first
                | (rw [decide_eq_true (Int32.not_le.mp h3), bi_1 h7, bi_1 h11, decide_eq_false h14, nI_clamp (by omega), nI_clamp (by omega), bi_0 h19, decide_eq_true (Int32.not_lt.mp h22), decide_eq_true (Int32.not_lt.mp h25)]; rfl)
                | (rw [decide_eq_false (Int32.not_lt.mpr h3)]; rfl)
                | (rw [bi_0 h7]; simp [bi]; done)
                | (rw [bi_0 h11]; simp [bi]; done)
                | (rw [decide_eq_true h14]; simp [bi]; done)
                | (rw [nI_clamp (by omega), nI_clamp (by omega), bi_1 h19]; simp [bi]; done)
                | (rw [decide_eq_false (Int32.not_le.mpr h22)]; simp [bi]; done)
                | (rw [decide_eq_false (Int32.not_le.mpr h25)]; simp [bi]; done)
            · refine am_iload_n rfl rfl ?_
              refine am_sipush rfl ?_
              refine am_icmp_gt rfl (fun h25 => ?_) (fun h25 => ?_)
              · refine am_iconst rfl ?_
                refine am_ireturn rfl (fun _ => by decide) ⟨?_, rfl⟩
                unfold tks
                first
                  | (rw [decide_eq_true (Int32.not_le.mp h3), bi_1 h7, bi_1 h11, decide_eq_false h14, nI_clamp (by omega), nI_clamp (by omega), bi_0 h19, decide_eq_true (Int32.not_lt.mp h22), decide_eq_true (Int32.not_lt.mp h25)]; rfl)
                  | (rw [decide_eq_false (Int32.not_lt.mpr h3)]; rfl)
                  | (rw [bi_0 h7]; simp [bi]; done)
                  | (rw [bi_0 h11]; simp [bi]; done)
                  | (rw [decide_eq_true h14]; simp [bi]; done)
                  | (rw [nI_clamp (by omega), nI_clamp (by omega), bi_1 h19]; simp [bi]; done)
                  | (rw [decide_eq_false (Int32.not_le.mpr h22)]; simp [bi]; done)
                  | (rw [decide_eq_false (Int32.not_le.mpr h25)]; simp [bi]; done)
              · refine am_iconst rfl ?_
                refine am_goto rfl ?_
                refine am_ireturn rfl (fun _ => by decide) ⟨?_, rfl⟩
                unfold tks
                first
                  | (rw [decide_eq_true (Int32.not_le.mp h3), bi_1 h7, bi_1 h11, decide_eq_false h14, nI_clamp (by omega), nI_clamp (by omega), bi_0 h19, decide_eq_true (Int32.not_lt.mp h22), decide_eq_true (Int32.not_lt.mp h25)]; rfl)
                  | (rw [decide_eq_false (Int32.not_lt.mpr h3)]; rfl)
                  | (rw [bi_0 h7]; simp [bi]; done)
                  | (rw [bi_0 h11]; simp [bi]; done)
                  | (rw [decide_eq_true h14]; simp [bi]; done)
                  | (rw [nI_clamp (by omega), nI_clamp (by omega), bi_1 h19]; simp [bi]; done)
                  | (rw [decide_eq_false (Int32.not_le.mpr h22)]; simp [bi]; done)
                  | (rw [decide_eq_false (Int32.not_le.mpr h25)]; simp [bi]; done)
/-- addEdge(a, b, weight) -/
def addE (S : am_S0) (a b m : Nat) (w : Int32) : am_S0 := am_up (am_up (am_up (am_up S 4 (upd (S 4) m w)) (6 + a) (upd (S (6 + a)) b (nI m))) (6 + b) (upd (S (6 + b)) a (nI m))) 2 (upd (S 2) 5 (nI m + 1))
theorem s_addEdge (a b m : Nat) (w : Int32) (ha : a < 12) (hb : b < 12) (hab : a ≠ b) (hm : m < 24) (hS : S 2 5 = nI m) : AW g d 0 0 22 0 (am_L0 22 [.ref 2, .int (nI a), .int (nI b), .int w]) [] (mem ch S) (am_is (some (.int (nI m))) (mem ch (addE S a b m w))) := by
  refine am_aload_n rfl rfl rfl ?_
  refine am_get rfl rfl rfl ?_
  rw [hS]
  refine am_istore rfl ?_
  refine am_aload_n rfl rfl rfl ?_
  refine am_get rfl rfl rfl ?_
  refine am_iload rfl rfl ?_
  refine am_iload_n rfl rfl ?_
  refine am_iast rfl rfl rfl hm (by decide) ?_
  refine am_Meq (M' := mem ch (am_up S 4 (upd (S 4) m w))) rfl ?_
  generalize hS1 : am_up S 4 (upd (S 4) m w) = S1
  have h6 : ∀ u, S1 (6 + u) = S (6 + u) := fun u => by rw [← hS1]; exact am_up_ne _ _ (by omega)
  have h2 : S1 2 = S 2 := by rw [← hS1]; rfl
  refine am_aload_n rfl rfl rfl ?_
  refine am_get rfl rfl rfl ?_
  refine am_iload_n rfl rfl ?_
  refine am_aald rfl rfl (Or.inl rfl) rfl ha (by decide) (if_pos ha) ?_
  refine am_iload_n rfl rfl ?_
  refine am_iload rfl rfl ?_
  refine am_iast rfl (mem_eb a ha) rfl hb (by decide) ?_
  refine am_Meq (mem_eb_set a ha) ?_
  refine am_aload_n rfl rfl rfl ?_
  refine am_get rfl rfl rfl ?_
  refine am_iload_n rfl rfl ?_
  refine am_aald rfl rfl (Or.inl rfl) rfl hb (by decide) (if_pos hb) ?_
  refine am_iload_n rfl rfl ?_
  refine am_iload rfl rfl ?_
  refine am_iast rfl (mem_eb b hb) rfl ha (by decide) ?_
  refine am_Meq (mem_eb_set b hb) ?_
  have e2 : am_up (am_up S1 (6 + a) (upd (S1 (6 + a)) b (nI m))) (6 + b) (upd (am_up S1 (6 + a) (upd (S1 (6 + a)) b (nI m)) (6 + b)) a (nI m)) 2 = S 2 := by
    rw [am_up_ne _ _ (by omega), am_up_ne _ _ (by omega), h2]
  rw [am_up_ne _ _ (show 6 + b ≠ 6 + a by omega), h6, h6] at e2 ⊢
  generalize hS2 : am_up (am_up S1 (6 + a) (upd (S (6 + a)) b (nI m))) (6 + b) (upd (S (6 + b)) a (nI m)) = S2 at e2 ⊢
  refine am_aload_n rfl rfl rfl ?_
  refine am_dup rfl rfl ?_
  refine am_get rfl rfl rfl ?_
  refine am_iconst rfl ?_
  refine am_iadd rfl ?_
  refine am_put rfl rfl (Nat.le_of_ble_eq_true rfl) rfl ?_
  refine am_Meq (M' := mem ch (addE S a b m w)) ?_ ?_
  · unfold addE
    rw [hS1, hS2]
    show mem ch (am_up S2 2 (upd (S2 2) 5 (S2 2 5 + 1))) = _
    rw [e2, hS]
  · refine am_iload rfl rfl ?_
    refine am_ireturn rfl (fun h => absurd h (by decide)) ⟨?_, rfl⟩
    rfl
/-- clear(n) -/
def clr1 (v : Nat) (S : am_S0) : am_S0 := am_up (am_up S 3 (upd (S 3) v (nI v + 1))) (6 + v) (fil 12 (-1) (S (6 + v)))
def clr0 (S : am_S0) (x : Int32) : am_S0 := am_up S 2 (upd (upd (S 2) 4 x) 5 0)
theorem itr_s {σ : Type} (f : Nat → σ → σ) (k : Nat) (s : σ) : itr f (k + 1) s = f k (itr f k s) := rfl
theorem s_clear (x : Int32) : AW g (d + 1) 0 0 5 0 (am_L0 5 [.ref 2, .int x]) [] (mem ch S) (am_is none (mem ch (itr clr1 12 (clr0 S x)))) := by
  refine am_aload_n rfl rfl rfl ?_
  refine am_iload_n rfl rfl ?_
  refine am_put rfl rfl (Nat.le_of_ble_eq_true rfl) rfl ?_
  refine am_aload_n rfl rfl rfl ?_
  refine am_iconst rfl ?_
  refine am_put rfl rfl (Nat.le_of_ble_eq_true rfl) rfl ?_
  refine am_iconst rfl ?_
  refine am_istore_n rfl ?_
  refine am_Meq (M' := mem ch (itr clr1 0 (clr0 S x))) rfl ?_
  show AW g (d + 1) 0 0 5 8 [some (.ref 2), some (.int x), some (.int (nI 0))] [] _ _
  refine am_for (12) (fun v => [some (.ref 2), some (.int x), some (.int (nI v))]) (fun v => mem ch (itr clr1 v (clr0 S x))) (fun v hv k => ?_) ?_ 12 0 (by omega)
  · rw [itr_s] at k
    generalize itr clr1 v (clr0 S x) = S1 at k ⊢
    refine am_iload_n rfl rfl ?_
    refine am_bipush rfl ?_
    refine am_icmp_ge rfl (fun h => absurd h (nI_ge hv (by decide))) (fun _ => ?_)
    refine am_aload_n rfl rfl rfl ?_
    refine am_get rfl rfl rfl ?_
    refine am_iload_n rfl rfl ?_
    refine am_iload_n rfl rfl ?_
    refine am_iconst rfl ?_
    refine am_iadd rfl ?_
    refine am_iast rfl rfl rfl hv (by decide) ?_
    refine am_Meq (M' := mem ch (am_up S1 3 (upd (S1 3) v (nI v + 1)))) rfl ?_
    refine am_aload_n rfl rfl rfl ?_
    refine am_get rfl rfl rfl ?_
    refine am_iload_n rfl rfl ?_
    refine am_aald rfl rfl (Or.inl rfl) rfl hv (by decide) (if_pos hv) ?_
    refine am_iconst rfl ?_
    refine am_Sx [.ref (6 + v), .int (-1)] rfl rfl rfl rfl (s_fill (d := d) (mem_eb v hv) (by decide) (-1)) ?_
    refine am_Meq (mem_eb_set v hv) ?_
    rw [am_up_ne _ _ (show 6 + v ≠ 3 by omega)]
    refine am_iinc rfl rfl ?_
    refine am_goto rfl ?_
    unfold clr1 at k
    simp only [nI_succ] at k
    exact k
  · refine am_iload_n rfl rfl ?_
    refine am_bipush rfl ?_
    refine am_icmp_ge rfl (fun _ => ?_) (fun h => absurd (nI_le (Nat.le_refl 12) (by decide)) h)
    exact am_return rfl ⟨rfl, rfl⟩
end CNET
