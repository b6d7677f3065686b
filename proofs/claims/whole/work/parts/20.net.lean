/-! the class: Net -/
section CNET
variable {g : am_G} {d : Nat} {ch : Option Nat} {S : am_S0} {n : Nat} {E : Nat → Nat → Option Nat}
/-- hasNode(v) -/
theorem s_hasNode (x : Int32) : AW g d 0 0 20 0 (am_L0 20 [.ref 2, .int x]) [] (mem ch S) (am_is (some (.int (bi (decide (0 ≤ x) && decide (x < S 2 4))))) (mem ch S)) := by
  refine am_iload_n rfl rfl ?_
  refine am_if_lt rfl (fun h1 => ?_) (fun h1 => ?_)
  · refine am_iconst rfl ?_
    refine am_ireturn rfl (fun _ => by decide) ⟨?_, rfl⟩
    first | rw [decide_eq_true (Int32.not_lt.mp h1), decide_eq_true (Int32.not_le.mp h5)]; rfl | rw [decide_eq_false (fun q => absurd q (Int32.not_lt.mpr h5)), Bool.and_false]; rfl | rw [decide_eq_false (fun q => absurd h1 (Int32.not_lt.mpr q)), Bool.false_and]; rfl
  · refine am_iload_n rfl rfl ?_
    refine am_aload_n rfl rfl rfl ?_
    refine am_get rfl rfl rfl ?_
    refine am_icmp_ge rfl (fun h5 => ?_) (fun h5 => ?_)
    · refine am_iconst rfl ?_
      refine am_ireturn rfl (fun _ => by decide) ⟨?_, rfl⟩
      first | rw [decide_eq_true (Int32.not_lt.mp h1), decide_eq_true (Int32.not_le.mp h5)]; rfl | rw [decide_eq_false (fun q => absurd q (Int32.not_lt.mpr h5)), Bool.and_false]; rfl | rw [decide_eq_false (fun q => absurd h1 (Int32.not_lt.mpr q)), Bool.false_and]; rfl
    · refine am_iconst rfl ?_
      refine am_goto rfl ?_
      refine am_ireturn rfl (fun _ => by decide) ⟨?_, rfl⟩
      first | rw [decide_eq_true (Int32.not_lt.mp h1), decide_eq_true (Int32.not_le.mp h5)]; rfl | rw [decide_eq_false (fun q => absurd q (Int32.not_lt.mpr h5)), Bool.and_false]; rfl | rw [decide_eq_false (fun q => absurd h1 (Int32.not_lt.mpr q)), Bool.false_and]; rfl
/-- areNeighbours(a, b) -/
theorem s_areN (N : NetIs S n E) (u w : Nat) (hu : u < 12) (hw : w < 12) : AW g d 0 0 21 0 (am_L0 21 [.ref 2, .int (nI u), .int (nI w)]) [] (mem ch S) (am_is (some (.int (bi (E u w).isSome))) (mem ch S)) := by
  refine am_aload_n rfl rfl rfl ?_
  refine am_get rfl rfl rfl ?_
  refine am_iload_n rfl rfl ?_
  refine am_aald rfl rfl (Or.inl rfl) rfl hu (by decide) (if_pos hu) ?_
  refine am_iload_n rfl rfl ?_
  refine am_iald rfl (mem_eb u hu) rfl hw (by decide) ?_
  refine am_iconst rfl ?_
  rw [N.2.2.1 u w hu hw]
  refine am_icmp_eq rfl (fun h7 => ?_) (fun h7 => ?_)
  · rw [em_n1 (N.2.2.2 u w)] at h7
    refine am_iconst rfl ?_
    exact am_ireturn rfl (fun _ => by decide) ⟨by rw [h7]; rfl, rfl⟩
  · rw [em_n1 (N.2.2.2 u w)] at h7
    refine am_iconst rfl ?_
    refine am_goto rfl ?_
    exact am_ireturn rfl (fun _ => by decide) ⟨by rw [Option.isSome_iff_ne_none.mpr h7]; rfl, rfl⟩
/-- weightBetween(a, b) -/
theorem s_weightB (N : NetIs S n E) (u w e : Nat) (hu : u < 12) (hw : w < 12) (he : E u w = some e) : AW g d 0 0 95 0 (am_L0 95 [.ref 2, .int (nI u), .int (nI w)]) [] (mem ch S) (am_is (some (.int (S 4 e))) (mem ch S)) := by
  refine am_aload_n rfl rfl rfl ?_
  refine am_get rfl rfl rfl ?_
  refine am_aload_n rfl rfl rfl ?_
  refine am_get rfl rfl rfl ?_
  refine am_iload_n rfl rfl ?_
  refine am_aald rfl rfl (Or.inl rfl) rfl hu (by decide) (if_pos hu) ?_
  refine am_iload_n rfl rfl ?_
  refine am_iald rfl (mem_eb u hu) rfl hw (by decide) ?_
  refine am_iald rfl rfl (by rw [N.2.2.1 u w hu hw, he]; rfl) (N.2.2.2 u w e he) (by decide) ?_
  refine am_ireturn rfl (fun h => absurd h (by decide)) ⟨?_, rfl⟩
  rfl
/-- countNeighbours(v) -/
theorem s_countN (N : NetIs S n E) (x : Nat) (hx : x < 12) : AW g (d + 1) 0 0 47 0 (am_L0 47 [.ref 2, .int (nI x)]) [] (mem ch S) (am_is (some (.int (nI (cnt (fun u => (E x u).isSome) n)))) (mem ch S)) := by
  have hn := N.2.1
  refine am_iconst rfl ?_
  refine am_istore_n rfl ?_
  refine am_iconst rfl ?_
  refine am_istore_n rfl ?_
  show AW g (d + 1) 0 0 47 4 [some (.ref 2), some (.int (nI x)), some (.int (nI (cnt (fun u => (E x u).isSome) 0))), some (.int (nI 0))] [] (mem ch S) _
  refine am_for (n) (fun v => [some (.ref 2), some (.int (nI x)), some (.int (nI (cnt (fun u => (E x u).isSome) v))), some (.int (nI v))]) (fun v => mem ch S) (fun v hv k => ?_) ?_ n 0 (by omega)
  · refine am_iload_n rfl rfl ?_
    refine am_aload_n rfl rfl rfl ?_
    refine am_get rfl rfl rfl ?_
    refine am_icmp_ge rfl (fun h => absurd h (nd_lt N.1 N.2.1 hv)) (fun _ => ?_)
    refine am_aload_n rfl rfl rfl ?_
    refine am_iload_n rfl rfl ?_
    refine am_iload_n rfl rfl ?_
    refine am_Vx [.int (nI x), .int (nI v)] rfl rfl rfl rfl rfl rfl (s_areN N x v hx (by omega)) ?_
    refine am_if_eq rfl (fun h12 => ?_) (fun h12 => ?_)
    · refine am_iinc rfl rfl ?_
      refine am_goto rfl ?_
      first
        | (simp only [cnt, bi_0 h12, cond_false, nI_succ] at k; exact k)
        | (simp only [cnt, bi_1 h12, cond_true, nI_succ] at k; exact k)
    · refine am_iinc rfl rfl ?_
      refine am_iinc rfl rfl ?_
      refine am_goto rfl ?_
      first
        | (simp only [cnt, bi_0 h12, cond_false, nI_succ] at k; exact k)
        | (simp only [cnt, bi_1 h12, cond_true, nI_succ] at k; exact k)
  · refine am_iload_n rfl rfl ?_
    refine am_aload_n rfl rfl rfl ?_
    refine am_get rfl rfl rfl ?_
    refine am_icmp_ge rfl (fun _ => ?_) (fun h => absurd (nd_ge N.1 N.2.1) h)
    refine am_iload_n rfl rfl ?_
    refine am_ireturn rfl (fun h => absurd h (by decide)) ⟨?_, rfl⟩
    rfl
/-- isHeavier(edge, other) -/
def hvy (w : Nat → Int32) (e f : Nat) : Bool := bif decide (w e = w f) then decide (e < f) else decide (w f < w e)
theorem s_heavier (e f : Nat) (he : e < 24) (hf : f < 24) : AW g d 0 0 88 0 (am_L0 88 [.ref 2, .int (nI e), .int (nI f)]) [] (mem ch S) (am_is (some (.int (bi (hvy (S 4) e f)))) (mem ch S)) := by
  refine am_aload_n rfl rfl rfl ?_
  refine am_get rfl rfl rfl ?_
  refine am_iload_n rfl rfl ?_
  refine am_iald rfl rfl rfl (by omega) (by decide) ?_
  refine am_aload_n rfl rfl rfl ?_
  refine am_get rfl rfl rfl ?_
  refine am_iload_n rfl rfl ?_
  refine am_iald rfl rfl rfl (by omega) (by decide) ?_
  refine am_icmp_eq rfl (fun h8 => ?_) (fun h8 => ?_)
  · refine am_iload_n rfl rfl ?_
    refine am_iload_n rfl rfl ?_
    refine am_icmp_ge rfl (fun h24 => ?_) (fun h24 => ?_)
    · refine am_iconst rfl ?_
      refine am_ireturn rfl (fun _ => by decide) ⟨?_, rfl⟩
      unfold hvy
      rw [decide_eq_true h8]
      rw [nI_leI (by omega) (by omega)] at h24
      first | rw [decide_eq_true (Nat.not_le.mp h24)]; rfl | rw [decide_eq_false (Nat.not_lt.mpr h24)]; rfl
    · refine am_iconst rfl ?_
      refine am_goto rfl ?_
      refine am_ireturn rfl (fun _ => by decide) ⟨?_, rfl⟩
      unfold hvy
      rw [decide_eq_true h8]
      rw [nI_leI (by omega) (by omega)] at h24
      first | rw [decide_eq_true (Nat.not_le.mp h24)]; rfl | rw [decide_eq_false (Nat.not_lt.mpr h24)]; rfl
  · refine am_aload_n rfl rfl rfl ?_
    refine am_get rfl rfl rfl ?_
    refine am_iload_n rfl rfl ?_
    refine am_iald rfl rfl rfl (by omega) (by decide) ?_
    refine am_aload_n rfl rfl rfl ?_
    refine am_get rfl rfl rfl ?_
    refine am_iload_n rfl rfl ?_
    refine am_iald rfl rfl rfl (by omega) (by decide) ?_
    refine am_icmp_le rfl (fun h17 => ?_) (fun h17 => ?_)
    · refine am_iconst rfl ?_
      refine am_ireturn rfl (fun _ => by decide) ⟨?_, rfl⟩
      unfold hvy
      rw [decide_eq_false h8]
      first | rw [decide_eq_true (Int32.not_le.mp h17)]; rfl | rw [decide_eq_false (Int32.not_lt.mpr h17)]; rfl
    · refine am_iconst rfl ?_
      refine am_goto rfl ?_
      refine am_ireturn rfl (fun _ => by decide) ⟨?_, rfl⟩
      unfold hvy
      rw [decide_eq_false h8]
      first | rw [decide_eq_true (Int32.not_le.mp h17)]; rfl | rw [decide_eq_false (Int32.not_lt.mpr h17)]; rfl
/-- hasTwins() -/
def twn (ids : Nat → Int32) (n : Nat) : Bool := anyb (fun a => anyb (fun b => decide (a < b) && decide (ids a = ids b)) n) n
theorem s_twins (N : NetIs S n E) : AW g d 0 0 28 0 (am_L0 28 [.ref 2]) [] (mem ch S) (am_is (some (.int (bi (twn (S 3) n)))) (mem ch S)) := by
  have hn := N.2.1
  refine am_iconst rfl ?_
  refine am_istore_n rfl ?_
  show AW g d 0 0 28 2 [some (.ref 2), some (.int (nI 0)), none] [] (mem ch S) _
  have key : ∀ (y : Option Value), AW g d 0 0 28 2 [some (.ref 2), some (.int (nI 0)), y] [] (mem ch S) (am_is (some (.int (bi (twn (S 3) n)))) (mem ch S)) := by
    intro y
    refine am_forS n (fun v y => [some (.ref 2), some (.int (nI v)), y]) (fun _ _ => mem ch S) (fun v _ => ∀ a b, a < v → a < b → b < n → ¬ S 3 a = S 3 b) (fun v y hv hi k => ?_) (fun y hi => ?_) n 0 y (by omega) (fun a b h => absurd h (Nat.not_lt_zero _))
    · refine am_iload_n rfl rfl ?_
      refine am_aload_n rfl rfl rfl ?_
      refine am_get rfl rfl rfl ?_
      refine am_icmp_ge rfl (fun h => absurd h (nd_lt N.1 N.2.1 hv)) (fun _ => ?_)
      refine am_iload_n rfl rfl ?_
      refine am_iconst rfl ?_
      refine am_iadd rfl ?_
      refine am_istore_n rfl ?_
      rw [nI_1]
      show AW g d 0 0 28 10 [some (.ref 2), some (.int (nI v)), some (.int (nI (v + 1)))] [] (mem ch S) _
      have hv0 := hv
      have hi0 := hi
      have k0 := k
      refine am_forI (n) (fun w => [some (.ref 2), some (.int (nI v)), some (.int (nI w))]) (fun w => mem ch S) (fun w => v + 1 ≤ w ∧ ∀ b, v < b → b < w → ¬ S 3 v = S 3 b) (fun w hv hi k => ?_) (fun hi => ?_) (n - (v + 1)) (v + 1) (by omega) ⟨Nat.le_refl _, fun b h1 h2 => absurd h2 (by omega)⟩
      · have hi2 := hi
        refine am_iload_n rfl rfl ?_
        refine am_aload_n rfl rfl rfl ?_
        refine am_get rfl rfl rfl ?_
        refine am_icmp_ge rfl (fun h => absurd h (nd_lt N.1 N.2.1 hv)) (fun _ => ?_)
        refine am_aload_n rfl rfl rfl ?_
        refine am_get rfl rfl rfl ?_
        refine am_iload_n rfl rfl ?_
        refine am_iald rfl rfl rfl (by omega) (by decide) ?_
        refine am_aload_n rfl rfl rfl ?_
        refine am_get rfl rfl rfl ?_
        refine am_iload_n rfl rfl ?_
        refine am_iald rfl rfl rfl (by omega) (by decide) ?_
        refine am_icmp_ne rfl (fun h22 => ?_) (fun h22 => ?_)
        · refine am_iinc rfl rfl ?_
          refine am_goto rfl ?_
          have k := k ⟨by omega, fun b h1 h2 => by
            by_cases e : b = w
            · rw [e]; exact h22
            · exact hi2.2 b h1 (by omega)⟩
          simp only [nI_succ] at k
          exact k
        · refine am_iconst rfl ?_
          refine am_ireturn rfl (fun _ => by decide) ⟨?_, rfl⟩
          have e : twn (S 3) n = true := anyb_true.mpr ⟨v, hv0, anyb_true.mpr ⟨w, hv, by simp only [decide_eq_true (show v < w by omega), Bool.true_and]; exact decide_eq_true h22⟩⟩
          rw [e]
          rfl
      · refine am_iload_n rfl rfl ?_
        refine am_aload_n rfl rfl rfl ?_
        refine am_get rfl rfl rfl ?_
        refine am_icmp_ge rfl (fun _ => ?_) (fun h => absurd (nd_ge N.1 N.2.1) h)
        refine am_iinc rfl rfl ?_
        refine am_goto rfl ?_
        have k := k0 (some (.int (nI n))) (fun a b h1 h2 h3 => by
          by_cases e : a = v
          · subst e; exact hi.2 b h2 h3
          · exact hi0 a b (by omega) h2 h3)
        simp only [nI_succ] at k
        exact k
    · refine am_iload_n rfl rfl ?_
      refine am_aload_n rfl rfl rfl ?_
      refine am_get rfl rfl rfl ?_
      refine am_icmp_ge rfl (fun _ => ?_) (fun h => absurd (nd_ge N.1 N.2.1) h)
      refine am_iconst rfl ?_
      refine am_ireturn rfl (fun _ => by decide) ⟨?_, rfl⟩
      have e : twn (S 3) n = false := anyb_false (fun a ha => anyb_false (fun b hb => by
        by_cases h : a < b
        · rw [decide_eq_false (hi a b ha h hb), Bool.and_false]
        · rw [decide_eq_false h, Bool.false_and]))
      rw [e]
      rfl
  exact key none
/-- Arrays.fill(a, x) -/
theorem s_fill {M : am_M} {o : Nat} {N : Nat} {f : Nat → Int32} (ho : M[o]? = some (.inl (0, N, .inl f))) (hN : N < 2 ^ 31) (x : Int32) : AW g d 0 0 6 0 (am_L0 6 [.ref o, .int x]) [] M (am_is none (M.set o (.inl (0, N, .inl (fil N x f))))) := by
  have hl : o < M.length := (List.getElem?_eq_some_iff.mp ho).1
  have e0 : M.set o (.inl (0, N, .inl (fil 0 x f))) = M := by
    rw [fil_0]
    apply List.ext_getElem?
    intro j
    by_cases e : o = j
    · subst e
      rw [List.getElem?_set_self hl, ho]
    · rw [List.getElem?_set_ne e]
  refine am_iconst rfl ?_
  refine am_istore_n rfl ?_
  refine am_aload_n rfl rfl rfl ?_
  refine am_alen rfl ho ?_
  refine am_istore_n rfl ?_
  show AW g d 0 0 6 5 [some (.ref o), some (.int x), some (.int (nI 0)), some (.int (nI N))] [] M _
  refine am_Meq e0.symm ?_
  refine am_for (N) (fun v => [some (.ref o), some (.int x), some (.int (nI v)), some (.int (nI N))]) (fun v => M.set o (.inl (0, N, .inl (fil v x f)))) (fun v hv k => ?_) ?_ N 0 (by omega)
  · refine am_iload_n rfl rfl ?_
    refine am_iload_n rfl rfl ?_
    refine am_icmp_ge rfl (fun h => absurd h (nI_ge hv hN)) (fun _ => ?_)
    refine am_aload_n rfl rfl rfl ?_
    refine am_iload_n rfl rfl ?_
    refine am_iload_n rfl rfl ?_
    refine am_iast rfl (List.getElem?_set_self hl) rfl hv hN ?_
    refine am_iinc rfl rfl ?_
    refine am_goto rfl ?_
    simp only [nI_succ] at k
    rw [List.set_set, fil_s]
    exact k
  · refine am_iload_n rfl rfl ?_
    refine am_iload_n rfl rfl ?_
    refine am_icmp_ge rfl (fun _ => ?_) (fun h => absurd (nI_le (Nat.le_refl _) hN) h)
    exact am_return rfl ⟨rfl, rfl⟩
/-- reachNeighbours(v) -/
theorem s_reach (N : NetIs S n E) (x : Nat) (hx : x < 12) (h1 : ¬ S 18 x = -1) : AW g (d + 1) 0 0 27 0 (am_L0 27 [.ref 2, .int (nI x)]) [] (mem ch S) (am_is none (mem ch (am_up S 18 (rch E x n (S 18))))) := by
  have hn := N.2.1
  refine am_iconst rfl ?_
  refine am_istore_n rfl ?_
  refine am_Meq (M' := mem ch (am_up S 18 (rch E x 0 (S 18)))) (by rw [rch_0, am_up_self]) ?_
  refine am_for (n) (fun v => [some (.ref 2), some (.int (nI x)), some (.int (nI v))]) (fun v => mem ch (am_up S 18 (rch E x v (S 18)))) (fun v hv k => ?_) ?_ n 0 (by omega)
  · refine am_iload_n rfl rfl ?_
    refine am_aload_n rfl rfl rfl ?_
    refine am_get rfl rfl rfl ?_
    refine am_icmp_ge rfl (fun h => absurd h (nd_lt (N.up (k := 18) (by decide)).1 N.2.1 hv)) (fun _ => ?_)
    refine am_aload_n rfl rfl rfl ?_
    refine am_iload_n rfl rfl ?_
    refine am_iload_n rfl rfl ?_
    refine am_Vx [.int (nI x), .int (nI v)] rfl rfl rfl rfl rfl rfl (s_areN (N.up (by decide)) x v hx (by omega)) ?_
    refine am_if_eq rfl (fun h10 => ?_) (fun h10 => ?_)
    · refine am_iinc rfl rfl ?_
      refine am_goto rfl ?_
      have h10 := bi_0 h10
      rw [rch_no (fun q => absurd q.1 (by rw [h10]; decide))] at k
      simp only [nI_succ] at k
      exact k
    · refine am_aload_n rfl rfl rfl ?_
      refine am_get rfl rfl rfl ?_
      refine am_iload_n rfl rfl ?_
      refine am_iald rfl rfl rfl (by omega) (by decide) ?_
      refine am_iconst rfl ?_
      rw [am_up_at, rch_at (Or.inl (Nat.le_refl v))]
      refine am_icmp_ne rfl (fun h16 => ?_) (fun h16 => ?_)
      · rw [rch_no (fun q => h16 q.2)] at k
        refine am_iinc rfl rfl ?_
        refine am_goto rfl ?_
        simp only [nI_succ] at k
        exact k
      · refine am_aload_n rfl rfl rfl ?_
        refine am_get rfl rfl rfl ?_
        refine am_iload_n rfl rfl ?_
        refine am_aload_n rfl rfl rfl ?_
        refine am_get rfl rfl rfl ?_
        refine am_iload_n rfl rfl ?_
        refine am_iald rfl rfl rfl (by omega) (by decide) ?_
        refine am_iconst rfl ?_
        refine am_iadd rfl ?_
        refine am_iast rfl rfl rfl (by omega) (by decide) ?_
        refine am_Meq (M' := mem ch (am_up S 18 (rch E x (v + 1) (S 18)))) ?_ ?_
        · show mem ch (am_up (am_up S 18 _) 18 (upd (am_up S 18 _ 18) v (am_up S 18 (rch E x v (S 18)) 18 x + 1))) = _
          rw [am_up_up, am_up_at, rch_at (Or.inr h1), rch_yes (bi_1 h10) h16]
        · refine am_iinc rfl rfl ?_
          refine am_goto rfl ?_
          simp only [nI_succ] at k
          exact k
  · refine am_iload_n rfl rfl ?_
    refine am_aload_n rfl rfl rfl ?_
    refine am_get rfl rfl rfl ?_
    refine am_icmp_ge rfl (fun _ => ?_) (fun h => absurd (nd_ge (N.up (k := 18) (by decide)).1 N.2.1) h)
    exact am_return rfl ⟨rfl, rfl⟩
end CNET
