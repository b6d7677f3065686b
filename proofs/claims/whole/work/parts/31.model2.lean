/-! the model: measure, ready, and what is asked of edges and rounds -/
def iv (A : Nat → Nat → Option Nat) (a b : Nat) : Int32 := bif decide (a = b) then 0 else bif (A a b).isSome then 1 else 1000000
def ini1 (A : Nat → Nat → Option Nat) (a b : Nat) (f : Nat → Int32) : Nat → Int32 := upd f (12 * a + b) (iv A a b)
def ini (A : Nat → Nat → Option Nat) (n k : Nat) (f : Nat → Int32) : Nat → Int32 := itr (fun a => itr (ini1 A a) n) k f
def fw1 (y a b : Nat) (f : Nat → Int32) : Nat → Int32 := upd f (12 * a + b) (bif decide (f (12 * a + y) + f (12 * y + b) < f (12 * a + b)) then f (12 * a + y) + f (12 * y + b) else f (12 * a + b))
def fw (n k : Nat) (f : Nat → Int32) : Nat → Int32 := itr (fun y => itr (fun a => itr (fw1 y a) n) n) k f
section MMEA
variable {g : am_G} {d : Nat} {ch : Option Nat} {S : am_S0} {n q : Nat} {fa fb : Nat → Nat}
theorem m_mea1 (N : MN S n q fa fb) {K : am_K} (y : Option Value × Option Value × Option Value) (f : Nat → Int32)
    (kk : ∀ y : Option Value × Option Value × Option Value, AW g (d + 2) 0 0 112 37 [some (.ref 38), some (.int (nI n)), y.1, y.2.1, y.2.2] [] (mem ch (am_up S 43 (ini (bt fa fb q) n n f))) K) :
    AW g (d + 2) 0 0 112 2 [some (.ref 38), some (.int (nI 0)), y.1, y.2.1, y.2.2] [] (mem ch (am_up S 43 f)) K := by
  have hn := N.2.1
  refine am_forS n (fun a y => [some (.ref 38), some (.int (nI a)), y.1, y.2.1, y.2.2]) (fun a _ => mem ch (am_up S 43 (ini (bt fa fb q) n a f))) (fun _ _ => True) (fun a y ha _ k0 => ?_) (fun y _ => ?_) n 0 y (by omega) trivial
  · unfold ini at k0 ⊢
    rw [itr_s] at k0
    generalize itr (fun a => itr (ini1 (bt fa fb q) a) n) a f = F at k0 ⊢
    refine am_iload_n rfl rfl ?_
    refine am_aload_n rfl rfl rfl ?_
    refine am_get rfl rfl rfl ?_
    refine am_icmp_ge rfl (fun h => absurd h (nm_lt (N.up (k := 43) (by decide)).1 N.2.1 ha)) (fun _ => ?_)
    refine am_iconst rfl ?_
    refine am_istore_n rfl ?_
    refine am_Meq (M' := mem ch (am_up S 43 (itr (ini1 (bt fa fb q) a) 0 F))) rfl ?_
    show AW g (d + 2) 0 0 112 8 [some (.ref 38), some (.int (nI a)), some (.int (nI 0)), y.2.1, y.2.2] [] _ _
    refine am_for (n) (fun v => [some (.ref 38), some (.int (nI a)), some (.int (nI v)), y.2.1, y.2.2]) (fun v => mem ch (am_up S 43 (itr (ini1 (bt fa fb q) a) v F))) (fun v hv k => ?_) ?_ n 0 (by omega)
    · rw [itr_s] at k
      generalize itr (ini1 (bt fa fb q) a) v F = F1 at k ⊢
      unfold ini1 at k
      refine am_iload_n rfl rfl ?_
      refine am_aload_n rfl rfl rfl ?_
      refine am_get rfl rfl rfl ?_
      refine am_icmp_ge rfl (fun h => absurd h (nm_lt (N.up (k := 43) (by decide)).1 N.2.1 hv)) (fun _ => ?_)
      refine am_aload_n rfl rfl rfl ?_
      refine am_get rfl rfl rfl ?_
      refine am_bipush rfl ?_
      refine am_iload_n rfl rfl ?_
      refine am_imul rfl ?_
      refine am_iload_n rfl rfl ?_
      refine am_iadd rfl ?_
      refine am_iload_n rfl rfl ?_
      refine am_iload_n rfl rfl ?_
      refine am_icmp_ne rfl (fun h21 => ?_) (fun h21 => ?_)
      · rw [nI_eq (by omega) (by omega)] at h21
        refine am_aload_n rfl rfl rfl ?_
        refine am_iload_n rfl rfl ?_
        refine am_iload_n rfl rfl ?_
        refine am_Vx [.int (nI a), .int (nI v)] rfl rfl rfl rfl rfl rfl (m_areN (d := d) (N.up (k := 43) (by decide)) a v (by omega) (by omega)) ?_
        refine am_if_eq rfl (fun h28 => ?_) (fun h28 => ?_)
        · unfold iv at k
          rw [decide_eq_false h21, bi_0 h28, cond_false, cond_false] at k
          refine am_ldc rfl ?_
          refine am_iast rfl rfl (ix12 _ _) (by omega) (by decide) ?_
          refine am_Meq ms43 ?_
          refine am_iinc rfl rfl ?_
          refine am_goto rfl ?_
          simp only [nI_succ] at k
          exact k
        · unfold iv at k
          rw [decide_eq_false h21, bi_1 h28, cond_false, cond_true] at k
          refine am_iconst rfl ?_
          refine am_goto rfl ?_
          refine am_iast rfl rfl (ix12 _ _) (by omega) (by decide) ?_
          refine am_Meq ms43 ?_
          refine am_iinc rfl rfl ?_
          refine am_goto rfl ?_
          simp only [nI_succ] at k
          exact k
      · rw [nI_eq (by omega) (by omega)] at h21
        unfold iv at k
        rw [decide_eq_true h21, cond_true] at k
        refine am_iconst rfl ?_
        refine am_goto rfl ?_
        refine am_iast rfl rfl (ix12 _ _) (by omega) (by decide) ?_
        refine am_Meq ms43 ?_
        refine am_iinc rfl rfl ?_
        refine am_goto rfl ?_
        simp only [nI_succ] at k
        exact k
    · refine am_iload_n rfl rfl ?_
      refine am_aload_n rfl rfl rfl ?_
      refine am_get rfl rfl rfl ?_
      refine am_icmp_ge rfl (fun _ => ?_) (fun h => absurd (nm_ge (N.up (k := 43) (by decide)).1 N.2.1) h)
      refine am_iinc rfl rfl ?_
      refine am_goto rfl ?_
      have k0 := k0 (some (.int (nI n)), y.2.1, y.2.2) trivial
      simp only [nI_succ] at k0
      exact k0
  · refine am_iload_n rfl rfl ?_
    refine am_aload_n rfl rfl rfl ?_
    refine am_get rfl rfl rfl ?_
    refine am_icmp_ge rfl (fun _ => ?_) (fun h => absurd (nm_ge (N.up (k := 43) (by decide)).1 N.2.1) h)
    exact kk y
end MMEA
