/-! the class: Net -/
section CNET
variable {g : am_G} {d : Nat} {ch : Option Nat} {S : am_S0}
/-- hasNode(v) -/
theorem s_hasNode (x : Int32) : AW g d 0 0 20 0 (am_L0 20 [.ref 2, .int x]) [] (mem ch S) (am_is (some (.int (bi (decide (0 ≤ x) && decide (x < S 2 4))))) (mem ch S)) := by
  refine am_iload_n rfl rfl ?_
  refine am_if_lt rfl (fun h1 => ?_) (fun h1 => ?_)
  · refine am_iconst rfl ?_
    refine am_ireturn rfl (fun _ => by decide) ⟨?_, rfl⟩
    first | rw [decide_eq_true (Int32.not_lt.mp h1), decide_eq_true (Int32.not_le.mp h5)]; rfl | rw [decide_eq_false (fun q => absurd q (Int32.not_lt.mpr h5)), Bool.and_false]; rfl | rw [decide_eq_false (fun q => absurd h1 (Int32.not_lt.mpr q)), Bool.false_and]; rfl
  · refine am_iload_n rfl rfl ?_
    refine am_aload_n rfl rfl rfl ?_
    refine am_get rfl rfl rfl ?_
    refine am_icmp_ge rfl (fun h5 => ?_) (fun h5 => ?_)
    · refine am_iconst rfl ?_
      refine am_ireturn rfl (fun _ => by decide) ⟨?_, rfl⟩
      first | rw [decide_eq_true (Int32.not_lt.mp h1), decide_eq_true (Int32.not_le.mp h5)]; rfl | rw [decide_eq_false (fun q => absurd q (Int32.not_lt.mpr h5)), Bool.and_false]; rfl | rw [decide_eq_false (fun q => absurd h1 (Int32.not_lt.mpr q)), Bool.false_and]; rfl
    · refine am_iconst rfl ?_
      refine am_goto rfl ?_
      refine am_ireturn rfl (fun _ => by decide) ⟨?_, rfl⟩
      first | rw [decide_eq_true (Int32.not_lt.mp h1), decide_eq_true (Int32.not_le.mp h5)]; rfl | rw [decide_eq_false (fun q => absurd q (Int32.not_lt.mpr h5)), Bool.and_false]; rfl | rw [decide_eq_false (fun q => absurd h1 (Int32.not_lt.mpr q)), Bool.false_and]; rfl
/-- areNeighbours(a, b) -/
theorem s_areN (u w : Nat) (hu : u < 12) (hw : w < 12) : AW g d 0 0 21 0 (am_L0 21 [.ref 2, .int (nI u), .int (nI w)]) [] (mem ch S) (am_is (some (.int (bi (nb S u w)))) (mem ch S)) := by
  refine am_aload_n rfl rfl rfl ?_
  refine am_get rfl rfl rfl ?_
  refine am_iload_n rfl rfl ?_
  refine am_aald rfl rfl (Or.inl rfl) rfl hu (by decide) (if_pos hu) ?_
  refine am_iload_n rfl rfl ?_
  refine am_iald rfl (mem_eb u hu) rfl hw (by decide) ?_
  refine am_iconst rfl ?_
  refine am_icmp_eq rfl (fun h7 => ?_) (fun h7 => ?_)
  · refine am_iconst rfl ?_
    refine am_ireturn rfl (fun _ => by decide) ⟨?_, rfl⟩
    unfold nb
    first | rw [decide_eq_true h7]; rfl | rw [decide_eq_false h7]; rfl
  · refine am_iconst rfl ?_
    refine am_goto rfl ?_
    refine am_ireturn rfl (fun _ => by decide) ⟨?_, rfl⟩
    unfold nb
    first | rw [decide_eq_true h7]; rfl | rw [decide_eq_false h7]; rfl
/-- weightBetween(a, b) -/
theorem s_weightB (u w e : Nat) (hu : u < 12) (hw : w < 12) (he : S (6 + u) w = nI e) (he2 : e < 24) : AW g d 0 0 95 0 (am_L0 95 [.ref 2, .int (nI u), .int (nI w)]) [] (mem ch S) (am_is (some (.int (S 4 e))) (mem ch S)) := by
  refine am_aload_n rfl rfl rfl ?_
  refine am_get rfl rfl rfl ?_
  refine am_aload_n rfl rfl rfl ?_
  refine am_get rfl rfl rfl ?_
  refine am_iload_n rfl rfl ?_
  refine am_aald rfl rfl (Or.inl rfl) rfl hu (by decide) (if_pos hu) ?_
  refine am_iload_n rfl rfl ?_
  refine am_iald rfl (mem_eb u hu) rfl hw (by decide) ?_
  refine am_iald rfl rfl he he2 (by decide) ?_
  refine am_ireturn rfl (fun h => absurd h (by decide)) ⟨?_, rfl⟩
  rfl
/-- countNeighbours(v) -/
theorem s_countN {n : Nat} (hN : S 2 4 = nI n) (hn : n ≤ 12) (x : Nat) (hx : x < 12) : AW g (d + 1) 0 0 47 0 (am_L0 47 [.ref 2, .int (nI x)]) [] (mem ch S) (am_is (some (.int (nI (cnt (nb S x) n)))) (mem ch S)) := by
  refine am_iconst rfl ?_
  refine am_istore_n rfl ?_
  refine am_iconst rfl ?_
  refine am_istore_n rfl ?_
  show AW g (d + 1) 0 0 47 4 [some (.ref 2), some (.int (nI x)), some (.int (nI (cnt (nb S x) 0))), some (.int (nI 0))] [] (mem ch S) _
  refine am_for n (fun v => [some (.ref 2), some (.int (nI x)), some (.int (nI (cnt (nb S x) v))), some (.int (nI v))]) (fun v => mem ch S) (fun v hv k => ?_) ?_ n 0 (by omega)
  · refine am_iload_n rfl rfl ?_
    refine am_aload_n rfl rfl rfl ?_
    refine am_get rfl rfl rfl ?_
    refine am_icmp_ge rfl (fun h => absurd h (nd_lt hN hn hv)) (fun _ => ?_)
    refine am_aload_n rfl rfl rfl ?_
    refine am_iload_n rfl rfl ?_
    refine am_iload_n rfl rfl ?_
    refine am_Vx [.int (nI x), .int (nI v)] rfl rfl rfl rfl rfl rfl (s_areN x v hx (by omega)) ?_
    refine am_if_eq rfl (fun h12 => ?_) (fun h12 => ?_)
    · refine am_iinc rfl rfl ?_
      refine am_goto rfl ?_
      first
        | (simp only [cnt, bi_0 h12, cond_false, nI_succ] at k; exact k)
        | (simp only [cnt, bi_1 h12, cond_true, nI_succ] at k; exact k)
    · refine am_iinc rfl rfl ?_
      refine am_iinc rfl rfl ?_
      refine am_goto rfl ?_
      first
        | (simp only [cnt, bi_0 h12, cond_false, nI_succ] at k; exact k)
        | (simp only [cnt, bi_1 h12, cond_true, nI_succ] at k; exact k)
  · refine am_iload_n rfl rfl ?_
    refine am_aload_n rfl rfl rfl ?_
    refine am_get rfl rfl rfl ?_
    refine am_icmp_ge rfl (fun _ => ?_) (fun h => absurd (nd_ge hN hn) h)
    refine am_iload_n rfl rfl ?_
    refine am_ireturn rfl (fun h => absurd h (by decide)) ⟨?_, rfl⟩
    rfl
end CNET
