/-! the model: measure to its end, ready, and small asks -/
section MM3
variable {g : am_G} {d : Nat} {ch : Option Nat} {S : am_S0} {n q : Nat} {fa fb : Nat → Nat}
theorem m_mea2 (N : MN S n q fa fb) (y0 : Option Value × Option Value × Option Value) (f : Nat → Int32) : AW g d 0 0 112 39 [some (.ref 38), some (.int (nI 0)), y0.1, y0.2.1, y0.2.2] [] (mem ch (am_up S 43 f)) (am_is none (mem ch (am_up S 43 (fw n n f)))) := by
  have hn := N.2.1
  refine am_forS (n) (fun y s1 => [some (.ref 38), some (.int (nI y)), s1.1, s1.2.1, s1.2.2]) (fun y s1 => mem ch (am_up S 43 (fw n y f))) (fun y s1 => True) (fun y s1 hy _ k1 => ?_) (fun s1 _ => ?_) (n) 0 (y0) (by omega) trivial
  · unfold fw at k1 ⊢
    rw [itr_s] at k1
    generalize itr (fun y => itr (fun a => itr (fw1 y a) n) n) y f = F1 at k1 ⊢
    refine am_iload_n rfl rfl ?_
    refine am_aload_n rfl rfl rfl ?_
    refine am_get rfl rfl rfl ?_
    refine am_icmp_ge rfl (fun h => absurd h (nm_lt (N.up (k := 43) (by decide)).1 hn hy)) (fun _ => ?_)
    refine am_iconst rfl ?_
    refine am_istore_n rfl ?_
    refine am_Meq (M' := mem ch (am_up S 43 (itr (fun a => itr (fw1 y a) n) 0 F1))) rfl ?_
    show AW g d 0 0 112 45 [some (.ref 38), some (.int (nI y)), some (.int (nI 0)), s1.2.1, s1.2.2] [] _ _
    refine am_forS (n) (fun a s2 => [some (.ref 38), some (.int (nI y)), some (.int (nI a)), s2.1, s2.2]) (fun a s2 => mem ch (am_up S 43 (itr (fun a => itr (fw1 y a) n) a F1))) (fun a s2 => True) (fun a s2 ha _ k2 => ?_) (fun s2 _ => ?_) (n) 0 ((s1.2.1, s1.2.2)) (by omega) trivial
    · rw [itr_s] at k2
      generalize itr (fun a => itr (fw1 y a) n) a F1 = F2 at k2 ⊢
      refine am_iload_n rfl rfl ?_
      refine am_aload_n rfl rfl rfl ?_
      refine am_get rfl rfl rfl ?_
      refine am_icmp_ge rfl (fun h => absurd h (nm_lt (N.up (k := 43) (by decide)).1 hn ha)) (fun _ => ?_)
      refine am_iconst rfl ?_
      refine am_istore_n rfl ?_
      refine am_Meq (M' := mem ch (am_up S 43 (itr (fw1 y a) 0 F2))) rfl ?_
      show AW g d 0 0 112 51 [some (.ref 38), some (.int (nI y)), some (.int (nI a)), some (.int (nI 0)), s2.2] [] _ _
      refine am_forS (n) (fun v z => [some (.ref 38), some (.int (nI y)), some (.int (nI a)), some (.int (nI v)), z]) (fun v z => mem ch (am_up S 43 (itr (fw1 y a) v F2))) (fun v z => True) (fun v z hv _ k => ?_) (fun z _ => ?_) (n) 0 (s2.2) (by omega) trivial
      · rw [itr_s] at k
        generalize itr (fw1 y a) v F2 = F3 at k ⊢
        refine am_iload_n rfl rfl ?_
        refine am_aload_n rfl rfl rfl ?_
        refine am_get rfl rfl rfl ?_
        refine am_icmp_ge rfl (fun h => absurd h (nm_lt (N.up (k := 43) (by decide)).1 hn hv)) (fun _ => ?_)
        refine am_aload_n rfl rfl rfl ?_
        refine am_get rfl rfl rfl ?_
        refine am_bipush rfl ?_
        refine am_iload_n rfl rfl ?_
        refine am_imul rfl ?_
        refine am_iload_n rfl rfl ?_
        refine am_iadd rfl ?_
        refine am_iald rfl rfl (ix12 _ _) (by omega) (by decide) ?_
        refine am_aload_n rfl rfl rfl ?_
        refine am_get rfl rfl rfl ?_
        refine am_bipush rfl ?_
        refine am_iload_n rfl rfl ?_
        refine am_imul rfl ?_
        refine am_iload_n rfl rfl ?_
        refine am_iadd rfl ?_
        refine am_iald rfl rfl (ix12 _ _) (by omega) (by decide) ?_
        refine am_iadd rfl ?_
        refine am_istore rfl ?_
        refine am_aload_n rfl rfl rfl ?_
        refine am_get rfl rfl rfl ?_
        refine am_bipush rfl ?_
        refine am_iload_n rfl rfl ?_
        refine am_imul rfl ?_
        refine am_iload_n rfl rfl ?_
        refine am_iadd rfl ?_
        refine am_iload rfl rfl ?_
        refine am_aload_n rfl rfl rfl ?_
        refine am_get rfl rfl rfl ?_
        refine am_bipush rfl ?_
        refine am_iload_n rfl rfl ?_
        refine am_imul rfl ?_
        refine am_iload_n rfl rfl ?_
        refine am_iadd rfl ?_
        refine am_iald rfl rfl (ix12 _ _) (by omega) (by decide) ?_
        refine am_icmp_ge rfl (fun h89 => ?_) (fun h89 => ?_)
        · refine am_aload_n rfl rfl rfl ?_
          refine am_get rfl rfl rfl ?_
          refine am_bipush rfl ?_
          refine am_iload_n rfl rfl ?_
          refine am_imul rfl ?_
          refine am_iload_n rfl rfl ?_
          refine am_iadd rfl ?_
          refine am_iald rfl rfl (ix12 _ _) (by omega) (by decide) ?_
          refine am_iast rfl rfl (ix12 _ _) (by omega) (by decide) ?_
          refine am_Meq ms43 ?_
          refine am_iinc rfl rfl ?_
          refine am_goto rfl ?_
          simp only [fw1, decide_eq_false (show ¬ F3 (12 * a + y) + F3 (12 * y + v) < F3 (12 * a + v) from Int32.not_lt.mpr h89), cond_true, cond_false, nI_succ] at k
          exact k _ trivial
        · refine am_iload rfl rfl ?_
          refine am_goto rfl ?_
          refine am_iast rfl rfl (ix12 _ _) (by omega) (by decide) ?_
          refine am_Meq ms43 ?_
          refine am_iinc rfl rfl ?_
          refine am_goto rfl ?_
          simp only [fw1, decide_eq_true (show F3 (12 * a + y) + F3 (12 * y + v) < F3 (12 * a + v) from Int32.not_le.mp h89), cond_true, cond_false, nI_succ] at k
          exact k _ trivial
      · refine am_iload_n rfl rfl ?_
        refine am_aload_n rfl rfl rfl ?_
        refine am_get rfl rfl rfl ?_
        refine am_icmp_ge rfl (fun _ => ?_) (fun h => absurd (nm_ge (N.up (k := 43) (by decide)).1 hn) h)
        refine am_iinc rfl rfl ?_
        refine am_goto rfl ?_
        simp only [nI_succ] at k2
        exact k2 (_, _) trivial
    · refine am_iload_n rfl rfl ?_
      refine am_aload_n rfl rfl rfl ?_
      refine am_get rfl rfl rfl ?_
      refine am_icmp_ge rfl (fun _ => ?_) (fun h => absurd (nm_ge (N.up (k := 43) (by decide)).1 hn) h)
      refine am_iinc rfl rfl ?_
      refine am_goto rfl ?_
      simp only [nI_succ] at k1
      exact k1 (_, _, _) trivial
  · refine am_iload_n rfl rfl ?_
    refine am_aload_n rfl rfl rfl ?_
    refine am_get rfl rfl rfl ?_
    refine am_icmp_ge rfl (fun _ => ?_) (fun h => absurd (nm_ge (N.up (k := 43) (by decide)).1 hn) h)
    exact am_return rfl ⟨rfl, rfl⟩
/-- measure() -/
def mdist (A : Nat → Nat → Option Nat) (n : Nat) (f : Nat → Int32) : Nat → Int32 := fw n n (ini A n n f)
theorem m_measure (N : MN S n q fa fb) : AW g (d + 2) 0 0 112 0 (am_L0 112 [.ref 38]) [] (mem ch S) (am_is none (mem ch (am_up S 43 (mdist (bt fa fb q) n (S 43))))) := by
  refine am_iconst rfl ?_
  refine am_istore_n rfl ?_
  refine am_Meq (M' := mem ch (am_up S 43 (S 43))) (by rw [am_up_self]) ?_
  refine m_mea1 (d := d) N (none, none, none) (S 43) (fun y => ?_)
  refine am_iconst rfl ?_
  refine am_istore_n rfl ?_
  exact m_mea2 N y _
theorem m_heavier (e f : Nat) (he : e < 24) (hf : f < 24) : AW g d 0 0 119 0 (am_L0 119 [.ref 38, .int (nI e), .int (nI f)]) [] (mem ch S) (am_is (some (.int (bi (hvy (S 41) e f)))) (mem ch S)) := by
  refine am_aload_n rfl rfl rfl ?_
  refine am_get rfl rfl rfl ?_
  refine am_iload_n rfl rfl ?_
  refine am_iald rfl rfl rfl (by omega) (by decide) ?_
  refine am_aload_n rfl rfl rfl ?_
  refine am_get rfl rfl rfl ?_
  refine am_iload_n rfl rfl ?_
  refine am_iald rfl rfl rfl (by omega) (by decide) ?_
  refine am_icmp_eq rfl (fun h8 => ?_) (fun h8 => ?_)
  · refine am_iload_n rfl rfl ?_
    refine am_iload_n rfl rfl ?_
    refine am_icmp_ge rfl (fun h24 => ?_) (fun h24 => ?_)
    · refine am_iconst rfl ?_
      refine am_ireturn rfl (fun _ => by decide) ⟨?_, rfl⟩
      unfold hvy
      first
        | (rw [decide_eq_false h8]; first | rw [decide_eq_true (Int32.not_le.mp h17)]; rfl | rw [decide_eq_false (Int32.not_lt.mpr h17)]; rfl)
        | (rw [decide_eq_true h8]; rw [nI_leI (by omega) (by omega)] at h24; first | rw [decide_eq_true (Nat.not_le.mp h24)]; rfl | rw [decide_eq_false (Nat.not_lt.mpr h24)]; rfl)
    · refine am_iconst rfl ?_
      refine am_goto rfl ?_
      refine am_ireturn rfl (fun _ => by decide) ⟨?_, rfl⟩
      unfold hvy
      first
        | (rw [decide_eq_false h8]; first | rw [decide_eq_true (Int32.not_le.mp h17)]; rfl | rw [decide_eq_false (Int32.not_lt.mpr h17)]; rfl)
        | (rw [decide_eq_true h8]; rw [nI_leI (by omega) (by omega)] at h24; first | rw [decide_eq_true (Nat.not_le.mp h24)]; rfl | rw [decide_eq_false (Nat.not_lt.mpr h24)]; rfl)
  · refine am_aload_n rfl rfl rfl ?_
    refine am_get rfl rfl rfl ?_
    refine am_iload_n rfl rfl ?_
    refine am_iald rfl rfl rfl (by omega) (by decide) ?_
    refine am_aload_n rfl rfl rfl ?_
    refine am_get rfl rfl rfl ?_
    refine am_iload_n rfl rfl ?_
    refine am_iald rfl rfl rfl (by omega) (by decide) ?_
    refine am_icmp_le rfl (fun h17 => ?_) (fun h17 => ?_)
    · refine am_iconst rfl ?_
      refine am_goto rfl ?_
      refine am_ireturn rfl (fun _ => by decide) ⟨?_, rfl⟩
      unfold hvy
      first
        | (rw [decide_eq_false h8]; first | rw [decide_eq_true (Int32.not_le.mp h17)]; rfl | rw [decide_eq_false (Int32.not_lt.mpr h17)]; rfl)
        | (rw [decide_eq_true h8]; rw [nI_leI (by omega) (by omega)] at h24; first | rw [decide_eq_true (Nat.not_le.mp h24)]; rfl | rw [decide_eq_false (Nat.not_lt.mpr h24)]; rfl)
    · refine am_iconst rfl ?_
      refine am_goto rfl ?_
      refine am_ireturn rfl (fun _ => by decide) ⟨?_, rfl⟩
      unfold hvy
      first
        | (rw [decide_eq_false h8]; first | rw [decide_eq_true (Int32.not_le.mp h17)]; rfl | rw [decide_eq_false (Int32.not_lt.mpr h17)]; rfl)
        | (rw [decide_eq_true h8]; rw [nI_leI (by omega) (by omega)] at h24; first | rw [decide_eq_true (Nat.not_le.mp h24)]; rfl | rw [decide_eq_false (Nat.not_lt.mpr h24)]; rfl)
def isf (fa fb : Nat → Nat) (e v : Nat) : Bool := decide (fa e = v) || decide (fb e = v)
theorem m_isOf (N : MN S n q fa fb) (e v : Nat) (he : e < q) (hv : v < 12) : AW g d 0 0 120 0 (am_L0 120 [.ref 38, .int (nI e), .int (nI v)]) [] (mem ch S) (am_is (some (.int (bi (isf fa fb e v)))) (mem ch S)) := by
  obtain ⟨e1, e2, l1, l2⟩ := N.2.2.2.2 e he
  have hq := N.2.2.2.1
  refine am_aload_n rfl rfl rfl ?_
  refine am_get rfl rfl rfl ?_
  refine am_iload_n rfl rfl ?_
  refine am_iald rfl rfl rfl (by omega) (by decide) ?_
  rw [e1]
  refine am_iload_n rfl rfl ?_
  refine am_icmp_eq rfl (fun h5 => ?_) (fun h5 => ?_)
  · refine am_iconst rfl ?_
    refine am_goto rfl ?_
    refine am_ireturn rfl (fun _ => by decide) ⟨?_, rfl⟩
    rw [nI_eq (by omega) (by omega)] at h5
    try rw [nI_eq (by omega) (by omega)] at h11
    simp only [isf, decide_eq_true h5, Bool.or_true, Bool.true_or, Bool.or_false, bi, cond_true, cond_false]
  · refine am_aload_n rfl rfl rfl ?_
    refine am_get rfl rfl rfl ?_
    refine am_iload_n rfl rfl ?_
    refine am_iald rfl rfl rfl (by omega) (by decide) ?_
    rw [e2]
    refine am_iload_n rfl rfl ?_
    refine am_icmp_ne rfl (fun h11 => ?_) (fun h11 => ?_)
    · refine am_iconst rfl ?_
      refine am_ireturn rfl (fun _ => by decide) ⟨?_, rfl⟩
      rw [nI_eq (by omega) (by omega)] at h5
      try rw [nI_eq (by omega) (by omega)] at h11
      simp only [isf, decide_eq_false h5, decide_eq_false h11, Bool.or_true, Bool.true_or, Bool.or_false, bi, cond_true, cond_false]
    · refine am_iconst rfl ?_
      refine am_goto rfl ?_
      refine am_ireturn rfl (fun _ => by decide) ⟨?_, rfl⟩
      rw [nI_eq (by omega) (by omega)] at h5
      try rw [nI_eq (by omega) (by omega)] at h11
      simp only [isf, decide_eq_false h5, decide_eq_true h11, Bool.or_true, Bool.true_or, Bool.or_false, bi, cond_true, cond_false]
def mov (f : Nat → Int32) (v : Nat) (r : Int32) : Bool := !decide (f v ≤ 0) && !decide (r < f v)
theorem m_isOver (v : Nat) (hv : v < 12) (r : Int32) : AW g d 0 0 125 0 (am_L0 125 [.ref 38, .int (nI v), .int (r)]) [] (mem ch S) (am_is (some (.int (bi (mov (S 47) v r)))) (mem ch S)) := by
  refine am_aload_n rfl rfl rfl ?_
  refine am_get rfl rfl rfl ?_
  refine am_iload_n rfl rfl ?_
  refine am_iald rfl rfl rfl (by omega) (by decide) ?_
  refine am_if_le rfl (fun h4 => ?_) (fun h4 => ?_)
  · refine am_iconst rfl ?_
    refine am_ireturn rfl (fun _ => by decide) ⟨?_, rfl⟩
    simp only [mov, decide_eq_true h4, cond_true, cond_false, Bool.and_true, Bool.and_false, Bool.true_and, Bool.false_and, Bool.or_true, Bool.or_false, Bool.true_or, Bool.false_or, Bool.not_true, Bool.not_false, bi]
  · refine am_aload_n rfl rfl rfl ?_
    refine am_get rfl rfl rfl ?_
    refine am_iload_n rfl rfl ?_
    refine am_iald rfl rfl rfl (by omega) (by decide) ?_
    refine am_iload_n rfl rfl ?_
    refine am_icmp_gt rfl (fun h10 => ?_) (fun h10 => ?_)
    · refine am_iconst rfl ?_
      refine am_ireturn rfl (fun _ => by decide) ⟨?_, rfl⟩
      simp only [mov, decide_eq_false h4, decide_eq_true h10, cond_true, cond_false, Bool.and_true, Bool.and_false, Bool.true_and, Bool.false_and, Bool.or_true, Bool.or_false, Bool.true_or, Bool.false_or, Bool.not_true, Bool.not_false, bi]
    · refine am_iconst rfl ?_
      refine am_goto rfl ?_
      refine am_ireturn rfl (fun _ => by decide) ⟨?_, rfl⟩
      simp only [mov, decide_eq_false h4, decide_eq_false h10, cond_true, cond_false, Bool.and_true, Bool.and_false, Bool.true_and, Bool.false_and, Bool.or_true, Bool.or_false, Bool.true_or, Bool.false_or, Bool.not_true, Bool.not_false, bi]
def ins (A : Nat → Nat → Option Nat) (f : Nat → Int32) (n v : Nat) (r : Int32) : Nat := cnt (fun u => (A u v).isSome && (decide (f u = 0) || !decide (f u < r))) n
theorem m_inside (N : MN S n q fa fb) (x : Nat) (r : Int32) (hx : x < 12) : AW g (d + 2) 0 0 122 0 (am_L0 122 [.ref 38, .int (nI x), .int (r)]) [] (mem ch S) (am_is (some (.int (nI (ins (bt fa fb q) (S 47) n x r)))) (mem ch S)) := by
  have hn := N.2.1
  unfold ins
  refine am_iconst rfl ?_
  refine am_istore_n rfl ?_
  refine am_iconst rfl ?_
  refine am_istore rfl ?_
  show AW g _ 0 0 122 4 [some (.ref 38), some (.int (nI x)), some (.int (r)), some (.int (nI (cnt (fun u => (bt fa fb q u x).isSome && (decide (S 47 u = 0) || !decide (S 47 u < r))) 0))), some (.int (nI 0))] [] _ _
  refine am_for (n) (fun v => [some (.ref 38), some (.int (nI x)), some (.int (r)), some (.int (nI (cnt (fun u => (bt fa fb q u x).isSome && (decide (S 47 u = 0) || !decide (S 47 u < r))) v))), some (.int (nI v))]) (fun v => mem ch S) (fun v hv k => ?_) ?_ (n) 0 (by omega)
  · refine am_iload rfl rfl ?_
    refine am_aload_n rfl rfl rfl ?_
    refine am_get rfl rfl rfl ?_
    refine am_icmp_ge rfl (fun h => absurd h (nm_lt N.1 hn hv)) (fun _ => ?_)
    refine am_aload_n rfl rfl rfl ?_
    refine am_iload rfl rfl ?_
    refine am_iload_n rfl rfl ?_
    refine am_Vx [.int (nI v), .int (nI x)] rfl rfl rfl rfl rfl rfl (m_areN (d := _) N (v) (x) (by omega) (by omega)) ?_
    refine am_if_eq rfl (fun h12 => ?_) (fun h12 => ?_)
    · refine am_iload_n rfl rfl ?_
      refine am_istore_n rfl ?_
      refine am_iinc rfl rfl ?_
      refine am_goto rfl ?_
      simp only [cnt, bi_0 h12, cond_true, cond_false, Bool.and_true, Bool.and_false, Bool.true_and, Bool.false_and, Bool.or_true, Bool.or_false, Bool.true_or, Bool.false_or, Bool.not_true, Bool.not_false, nI_succ] at k
      exact k
    · refine am_aload_n rfl rfl rfl ?_
      refine am_get rfl rfl rfl ?_
      refine am_iload rfl rfl ?_
      refine am_iald rfl rfl rfl (by omega) (by decide) ?_
      refine am_if_eq rfl (fun h17 => ?_) (fun h17 => ?_)
      · refine am_iload_n rfl rfl ?_
        refine am_iconst rfl ?_
        refine am_iadd rfl ?_
        refine am_goto rfl ?_
        refine am_istore_n rfl ?_
        refine am_iinc rfl rfl ?_
        refine am_goto rfl ?_
        simp only [cnt, bi_1 h12, decide_eq_true h17, cond_true, cond_false, Bool.and_true, Bool.and_false, Bool.true_and, Bool.false_and, Bool.or_true, Bool.or_false, Bool.true_or, Bool.false_or, Bool.not_true, Bool.not_false, nI_succ] at k
        exact k
      · refine am_aload_n rfl rfl rfl ?_
        refine am_get rfl rfl rfl ?_
        refine am_iload rfl rfl ?_
        refine am_iald rfl rfl rfl (by omega) (by decide) ?_
        refine am_iload_n rfl rfl ?_
        refine am_icmp_lt rfl (fun h23 => ?_) (fun h23 => ?_)
        · refine am_iload_n rfl rfl ?_
          refine am_istore_n rfl ?_
          refine am_iinc rfl rfl ?_
          refine am_goto rfl ?_
          simp only [cnt, bi_1 h12, decide_eq_false h17, decide_eq_true h23, cond_true, cond_false, Bool.and_true, Bool.and_false, Bool.true_and, Bool.false_and, Bool.or_true, Bool.or_false, Bool.true_or, Bool.false_or, Bool.not_true, Bool.not_false, nI_succ] at k
          exact k
        · refine am_iload_n rfl rfl ?_
          refine am_iconst rfl ?_
          refine am_iadd rfl ?_
          refine am_goto rfl ?_
          refine am_istore_n rfl ?_
          refine am_iinc rfl rfl ?_
          refine am_goto rfl ?_
          simp only [cnt, bi_1 h12, decide_eq_false h17, decide_eq_false h23, cond_true, cond_false, Bool.and_true, Bool.and_false, Bool.true_and, Bool.false_and, Bool.or_true, Bool.or_false, Bool.true_or, Bool.false_or, Bool.not_true, Bool.not_false, nI_succ] at k
          exact k
  · refine am_iload rfl rfl ?_
    refine am_aload_n rfl rfl rfl ?_
    refine am_get rfl rfl rfl ?_
    refine am_icmp_ge rfl (fun _ => ?_) (fun h => absurd (nm_ge N.1 hn) h)
    refine am_iload_n rfl rfl ?_
    refine am_ireturn rfl (fun h => absurd h (by decide)) ⟨?_, rfl⟩
    rfl
def opn (fa fb : Nat → Nat) (f : Nat → Int32) (q : Nat) (r : Int32) : Nat := cnt (fun e => !(mov f (fa e) r || mov f (fb e) r)) q
theorem m_open (N : MN S n q fa fb) (r : Int32) : AW g (d + 1) 0 0 127 0 (am_L0 127 [.ref 38, .int (r)]) [] (mem ch S) (am_is (some (.int (nI (opn fa fb (S 47) q (r - 1))))) (mem ch S)) := by
  have hn := N.2.1
  have hq := N.2.2.2.1
  unfold opn
  refine am_iconst rfl ?_
  refine am_istore_n rfl ?_
  refine am_iconst rfl ?_
  refine am_istore_n rfl ?_
  show AW g _ 0 0 127 4 [some (.ref 38), some (.int (r)), some (.int (nI (cnt (fun e => !(mov (S 47) (fa e) (r - 1) || mov (S 47) (fb e) (r - 1))) 0))), some (.int (nI 0))] [] _ _
  refine am_for (q) (fun v => [some (.ref 38), some (.int (r)), some (.int (nI (cnt (fun e => !(mov (S 47) (fa e) (r - 1) || mov (S 47) (fb e) (r - 1))) v))), some (.int (nI v))]) (fun v => mem ch S) (fun v hv k => ?_) ?_ (q) 0 (by omega)
  · obtain ⟨e1, e2, l1, l2⟩ := N.2.2.2.2 v hv
    refine am_iload_n rfl rfl ?_
    refine am_aload_n rfl rfl rfl ?_
    refine am_get rfl rfl rfl ?_
    refine am_icmp_ge rfl (fun h => absurd h (ed_lt N hv)) (fun _ => ?_)
    refine am_aload_n rfl rfl rfl ?_
    refine am_aload_n rfl rfl rfl ?_
    refine am_get rfl rfl rfl ?_
    refine am_iload_n rfl rfl ?_
    refine am_iald rfl rfl rfl (by omega) (by decide) ?_
    rw [e1]
    refine am_iload_n rfl rfl ?_
    refine am_iconst rfl ?_
    refine am_isub rfl ?_
    refine am_Vx [.int (nI (fa v)), .int (r - 1)] rfl rfl rfl rfl rfl rfl (m_isOver (d := _) (fa v) (by omega) (r - 1)) ?_
    refine am_if_ne rfl (fun h17 => ?_) (fun h17 => ?_)
    · refine am_iload_n rfl rfl ?_
      refine am_goto rfl ?_
      refine am_istore_n rfl ?_
      refine am_iinc rfl rfl ?_
      refine am_goto rfl ?_
      simp only [cnt, bi_1 h17, cond_true, cond_false, Bool.and_true, Bool.and_false, Bool.true_and, Bool.false_and, Bool.or_true, Bool.or_false, Bool.true_or, Bool.false_or, Bool.not_true, Bool.not_false, nI_succ] at k
      exact k
    · refine am_aload_n rfl rfl rfl ?_
      refine am_aload_n rfl rfl rfl ?_
      refine am_get rfl rfl rfl ?_
      refine am_iload_n rfl rfl ?_
      refine am_iald rfl rfl rfl (by omega) (by decide) ?_
      rw [e2]
      refine am_iload_n rfl rfl ?_
      refine am_iconst rfl ?_
      refine am_isub rfl ?_
      refine am_Vx [.int (nI (fb v)), .int (r - 1)] rfl rfl rfl rfl rfl rfl (m_isOver (d := _) (fb v) (by omega) (r - 1)) ?_
      refine am_if_eq rfl (fun h27 => ?_) (fun h27 => ?_)
      · refine am_iload_n rfl rfl ?_
        refine am_iconst rfl ?_
        refine am_iadd rfl ?_
        refine am_istore_n rfl ?_
        refine am_iinc rfl rfl ?_
        refine am_goto rfl ?_
        simp only [cnt, bi_0 h17, bi_0 h27, cond_true, cond_false, Bool.and_true, Bool.and_false, Bool.true_and, Bool.false_and, Bool.or_true, Bool.or_false, Bool.true_or, Bool.false_or, Bool.not_true, Bool.not_false, nI_succ] at k
        exact k
      · refine am_iload_n rfl rfl ?_
        refine am_goto rfl ?_
        refine am_istore_n rfl ?_
        refine am_iinc rfl rfl ?_
        refine am_goto rfl ?_
        simp only [cnt, bi_0 h17, bi_1 h27, cond_true, cond_false, Bool.and_true, Bool.and_false, Bool.true_and, Bool.false_and, Bool.or_true, Bool.or_false, Bool.true_or, Bool.false_or, Bool.not_true, Bool.not_false, nI_succ] at k
        exact k
  · refine am_iload_n rfl rfl ?_
    refine am_aload_n rfl rfl rfl ?_
    refine am_get rfl rfl rfl ?_
    refine am_icmp_ge rfl (fun _ => ?_) (fun h => absurd (ed_ge N) h)
    refine am_iload_n rfl rfl ?_
    refine am_ireturn rfl (fun h => absurd h (by decide)) ⟨?_, rfl⟩
    rfl
def lst1 (ids f : Nat → Int32) (x : Nat) (r : Int32) (u w : Nat) : Nat := bif !decide (r < f (12 * x + u)) && !decide (ids w ≤ ids u) then u else w
def lst (ids f : Nat → Int32) (n x : Nat) (r : Int32) : Nat := itr (lst1 ids f x r) n x
theorem lst_lt {ids f : Nat → Int32} {x : Nat} {r : Int32} (hx : x < 12) : ∀ {k : Nat}, k ≤ 12 → itr (lst1 ids f x r) k x < 12
  | 0, _ => hx
  | k + 1, hk => by
    have h := lst_lt (ids := ids) (f := f) (r := r) hx (k := k) (by omega)
    rw [itr_s]
    generalize itr (lst1 ids f x r) k x = w at h ⊢
    unfold lst1
    cases (!decide (r < f (12 * x + k)) && !decide (ids w ≤ ids k))
    · exact h
    · show k < 12
      omega
theorem m_least (N : MN S n q fa fb) (x : Nat) (r : Int32) (hx : x < 12) : AW g (d + 1) 0 0 129 0 (am_L0 129 [.ref 38, .int (nI x), .int (r)]) [] (mem ch S) (am_is (some (.int (nI (lst (S 42) (S 43) n x r)))) (mem ch S)) := by
  have hn := N.2.1
  unfold lst
  refine am_iload_n rfl rfl ?_
  refine am_istore_n rfl ?_
  refine am_iconst rfl ?_
  refine am_istore rfl ?_
  show AW g _ 0 0 129 4 [some (.ref 38), some (.int (nI x)), some (.int (r)), some (.int (nI x)), some (.int (nI 0))] [] _ _
  refine am_for (n) (fun v => [some (.ref 38), some (.int (nI x)), some (.int (r)), some (.int (nI (itr (lst1 (S 42) (S 43) x r) v x))), some (.int (nI v))]) (fun v => mem ch S) (fun v hv k => ?_) ?_ (n) 0 (by omega)
  · have hw := lst_lt (ids := S 42) (f := S 43) (r := r) hx (k := v) (by omega)
    rw [itr_s] at k
    generalize itr (lst1 (S 42) (S 43) x r) v x = w at k hw ⊢
    refine am_iload rfl rfl ?_
    refine am_aload_n rfl rfl rfl ?_
    refine am_get rfl rfl rfl ?_
    refine am_icmp_ge rfl (fun h => absurd h (nm_lt N.1 hn hv)) (fun _ => ?_)
    refine am_aload_n rfl rfl rfl ?_
    refine am_iload_n rfl rfl ?_
    refine am_iload rfl rfl ?_
    refine am_Vx [.int (nI x), .int (nI v)] rfl rfl rfl rfl rfl rfl (m_far (d := _) (x) (v) (by omega) (by omega)) ?_
    refine am_iload_n rfl rfl ?_
    refine am_icmp_gt rfl (fun h13 => ?_) (fun h13 => ?_)
    · refine am_iload_n rfl rfl ?_
      refine am_istore_n rfl ?_
      refine am_iinc rfl rfl ?_
      refine am_goto rfl ?_
      simp only [lst1, decide_eq_true h13, cond_true, cond_false, Bool.and_true, Bool.and_false, Bool.true_and, Bool.false_and, Bool.or_true, Bool.or_false, Bool.true_or, Bool.false_or, Bool.not_true, Bool.not_false, nI_succ] at k
      exact k
    · refine am_aload_n rfl rfl rfl ?_
      refine am_get rfl rfl rfl ?_
      refine am_iload rfl rfl ?_
      refine am_iald rfl rfl rfl (by omega) (by decide) ?_
      refine am_aload_n rfl rfl rfl ?_
      refine am_get rfl rfl rfl ?_
      refine am_iload_n rfl rfl ?_
      refine am_iald rfl rfl rfl (by omega) (by decide) ?_
      refine am_icmp_ge rfl (fun h22 => ?_) (fun h22 => ?_)
      · refine am_iload_n rfl rfl ?_
        refine am_istore_n rfl ?_
        refine am_iinc rfl rfl ?_
        refine am_goto rfl ?_
        simp only [lst1, decide_eq_false h13, decide_eq_true h22, cond_true, cond_false, Bool.and_true, Bool.and_false, Bool.true_and, Bool.false_and, Bool.or_true, Bool.or_false, Bool.true_or, Bool.false_or, Bool.not_true, Bool.not_false, nI_succ] at k
        exact k
      · refine am_iload rfl rfl ?_
        refine am_goto rfl ?_
        refine am_istore_n rfl ?_
        refine am_iinc rfl rfl ?_
        refine am_goto rfl ?_
        simp only [lst1, decide_eq_false h13, decide_eq_false h22, cond_true, cond_false, Bool.and_true, Bool.and_false, Bool.true_and, Bool.false_and, Bool.or_true, Bool.or_false, Bool.true_or, Bool.false_or, Bool.not_true, Bool.not_false, nI_succ] at k
        exact k
  · refine am_iload rfl rfl ?_
    refine am_aload_n rfl rfl rfl ?_
    refine am_get rfl rfl rfl ?_
    refine am_icmp_ge rfl (fun _ => ?_) (fun h => absurd (nm_ge N.1 hn) h)
    refine am_iload_n rfl rfl ?_
    refine am_ireturn rfl (fun h => absurd h (by decide)) ⟨?_, rfl⟩
    rfl
theorem m_wayOf (v r : Nat) (hv : v < 12) (hr : r ≤ 13) : AW g d 0 0 134 0 (am_L0 134 [.ref 38, .int (nI v), .int (nI r)]) [] (mem ch S) (am_is (some (.int (S 48 (12 * r + v)))) (mem ch S)) := by
  refine am_aload_n rfl rfl rfl ?_
  refine am_get rfl rfl rfl ?_
  refine am_bipush rfl ?_
  refine am_iload_n rfl rfl ?_
  refine am_imul rfl ?_
  refine am_iload_n rfl rfl ?_
  refine am_iadd rfl ?_
  refine am_iald rfl rfl (ix12 _ _) (by omega) (by decide) ?_
  refine am_ireturn rfl (fun h => absurd h (by decide)) ⟨?_, rfl⟩
  rfl
end MM3
