/-! the model: ready, peel, pick -/
section MM4
variable {g : am_G} {d : Nat} {ch : Option Nat} {S : am_S0} {n q : Nat} {fa fb : Nat → Nat}
def mrd (A : Nat → Nat → Option Nat) (n : Nat) (ids f : Nat → Int32) : Nat := bif anyb (fun v => !decide (mdist A n f v < 1000000)) n then 1 else bif anyb (fun a => anyb (fun b => decide (b < a) && decide (ids a = ids b)) n) n then 2 else 0
theorem m_ready (N : MN S n q fa fb) : AW g (d + 3) 0 0 111 0 (am_L0 111 [.ref 38]) [] (mem ch S) (am_is (some (.int (nI (mrd (bt fa fb q) n (S 42) (S 43))))) (mem ch (bif decide (mrd (bt fa fb q) n (S 42) (S 43) = 0) then am_up (am_up S 43 (mdist (bt fa fb q) n (S 43))) 38 (upd (S 38) 6 1) else am_up S 43 (mdist (bt fa fb q) n (S 43))))) := by
  have hn := N.2.1
  unfold mrd
  refine am_aload_n rfl rfl rfl ?_
  refine am_Vx [] rfl rfl rfl rfl rfl rfl (m_measure (d := d) N) ?_
  generalize mdist (bt fa fb q) n (S 43) = D
  refine am_iconst rfl ?_
  refine am_istore_n rfl ?_
  show AW g _ 0 0 111 4 [some (.ref 38), some (.int (nI 0)), none] [] _ _
  refine am_forI (n) (fun v => [some (.ref 38), some (.int (nI v)), none]) (fun v => mem ch (am_up S 43 D)) (fun v => ∀ u, u < v → (!decide (D u < 1000000)) = false) (fun v hv hi k => ?_) (fun hi => ?_) (n) 0 (by omega) (fun u h => absurd h (Nat.not_lt_zero _))
  · refine am_iload_n rfl rfl ?_
    refine am_aload_n rfl rfl rfl ?_
    refine am_get rfl rfl rfl ?_
    refine am_icmp_ge rfl (fun h => absurd h (nm_lt (N.up (k := 43) (by decide)).1 hn hv)) (fun _ => ?_)
    refine am_aload_n rfl rfl rfl ?_
    refine am_get rfl rfl rfl ?_
    refine am_iload_n rfl rfl ?_
    refine am_iald rfl rfl rfl (by omega) (by decide) ?_
    refine am_ldc rfl ?_
    refine am_icmp_lt rfl (fun h13 => ?_) (fun h13 => ?_)
    · refine am_iinc rfl rfl ?_
      refine am_goto rfl ?_
      have k := k (fun u hu => by
        by_cases e : u = v
        · subst e; rw [decide_eq_true (show D u < 1000000 from h13)]; rfl
        · exact hi u (by omega))
      simp only [nI_succ] at k
      exact k
    · refine am_iconst rfl ?_
      refine am_ireturn rfl (fun h => absurd h (by decide)) ?_
      have e1 : anyb (fun v => !decide (D v < 1000000)) n = true := anyb_true.mpr ⟨v, hv, by rw [decide_eq_false (show ¬ D v < 1000000 from h13)]; rfl⟩
      rw [e1]
      exact ⟨rfl, rfl⟩
  · refine am_iload_n rfl rfl ?_
    refine am_aload_n rfl rfl rfl ?_
    refine am_get rfl rfl rfl ?_
    refine am_icmp_ge rfl (fun _ => ?_) (fun h => absurd (nm_ge (N.up (k := 43) (by decide)).1 hn) h)
    refine am_iconst rfl ?_
    refine am_istore_n rfl ?_
    rw [anyb_false hi, cond_false]
    show AW g _ 0 0 111 20 [some (.ref 38), some (.int (nI 0)), none] [] _ _
    refine am_forS (n) (fun a s => [some (.ref 38), some (.int (nI a)), s]) (fun a s => mem ch (am_up S 43 D)) (fun a s => ∀ b c, b < a → c < b → ¬ S 42 b = S 42 c) (fun a s ha hi0 k0 => ?_) (fun s hi0 => ?_) (n) 0 (none) (by omega) (fun b c h => absurd h (Nat.not_lt_zero _))
    · refine am_iload_n rfl rfl ?_
      refine am_aload_n rfl rfl rfl ?_
      refine am_get rfl rfl rfl ?_
      refine am_icmp_ge rfl (fun h => absurd h (nm_lt (N.up (k := 43) (by decide)).1 hn ha)) (fun _ => ?_)
      refine am_iconst rfl ?_
      refine am_istore_n rfl ?_
      show AW g _ 0 0 111 26 [some (.ref 38), some (.int (nI a)), some (.int (nI 0))] [] _ _
      refine am_forI (a) (fun v => [some (.ref 38), some (.int (nI a)), some (.int (nI v))]) (fun v => mem ch (am_up S 43 D)) (fun v => ∀ b, b < v → ¬ S 42 a = S 42 b) (fun v hv hi k => ?_) (fun hi => ?_) (a) 0 (by omega) (fun b h => absurd h (Nat.not_lt_zero _))
      · refine am_iload_n rfl rfl ?_
        refine am_iload_n rfl rfl ?_
        refine am_icmp_ge rfl (fun h => absurd h (nI_ge hv (by omega))) (fun _ => ?_)
        refine am_aload_n rfl rfl rfl ?_
        refine am_get rfl rfl rfl ?_
        refine am_iload_n rfl rfl ?_
        refine am_iald rfl rfl rfl (by omega) (by decide) ?_
        refine am_aload_n rfl rfl rfl ?_
        refine am_get rfl rfl rfl ?_
        refine am_iload_n rfl rfl ?_
        refine am_iald rfl rfl rfl (by omega) (by decide) ?_
        refine am_icmp_ne rfl (fun h37 => ?_) (fun h37 => ?_)
        · refine am_iinc rfl rfl ?_
          refine am_goto rfl ?_
          have k := k (fun b hb => by
            by_cases e : b = v
            · subst e; exact h37
            · exact hi b (by omega))
          simp only [nI_succ] at k
          exact k
        · refine am_iconst rfl ?_
          refine am_ireturn rfl (fun h => absurd h (by decide)) ?_
          have e2 : anyb (fun a => anyb (fun b => decide (b < a) && decide (S 42 a = S 42 b)) n) n = true := anyb_true.mpr ⟨a, ha, anyb_true.mpr ⟨v, by omega, by rw [decide_eq_true hv, Bool.true_and]; exact decide_eq_true h37⟩⟩
          rw [e2]
          exact ⟨rfl, rfl⟩
      · refine am_iload_n rfl rfl ?_
        refine am_iload_n rfl rfl ?_
        refine am_icmp_ge rfl (fun _ => ?_) (fun h => absurd (nI_le (Nat.le_refl a) (by omega)) h)
        refine am_iinc rfl rfl ?_
        refine am_goto rfl ?_
        have k0 := k0 (some (.int (nI a))) (fun b c h1 h2 => by
          by_cases e : b = a
          · subst e; exact hi c h2
          · exact hi0 b c (by omega) h2)
        simp only [nI_succ] at k0
        exact k0
    · refine am_iload_n rfl rfl ?_
      refine am_aload_n rfl rfl rfl ?_
      refine am_get rfl rfl rfl ?_
      refine am_icmp_ge rfl (fun _ => ?_) (fun h => absurd (nm_ge (N.up (k := 43) (by decide)).1 hn) h)
      refine am_aload_n rfl rfl rfl ?_
      refine am_iconst rfl ?_
      refine am_put rfl rfl (Nat.le_of_ble_eq_true rfl) rfl ?_
      refine am_iconst rfl ?_
      refine am_ireturn rfl (fun h => absurd h (by decide)) ?_
      have e2 : anyb (fun a => anyb (fun b => decide (b < a) && decide (S 42 a = S 42 b)) n) n = false := anyb_false (fun a ha => anyb_false (fun b hb => by
        by_cases h : b < a
        · rw [decide_eq_false (hi0 a b ha h), Bool.and_false]
        · rw [decide_eq_false h, Bool.false_and]))
      rw [e2]
      exact ⟨rfl, rfl⟩
def pel1 (A : Nat → Nat → Option Nat) (n : Nat) (K : Int32) (r v : Nat) (f : Nat → Int32) : Nat → Int32 := upd f v (bif decide (f v = 0) && !decide (K ≤ nI (ins A f n v (nI r))) then nI r else f v)
def pel (A : Nat → Nat → Option Nat) (n : Nat) (K : Int32) (k : Nat) (f : Nat → Int32) : Nat → Int32 := itr (fun r => itr (pel1 A n K (r + 1)) n) k (pw n (fun _ => 0) f)
theorem m_peel (N : MN S n q fa fb) : AW g (d + 3) 0 0 121 0 (am_L0 121 [.ref 38]) [] (mem ch S) (am_is none (mem ch (am_up S 47 (pel (bt fa fb q) n (S 38 9) n (S 47))))) := by
  have hn := N.2.1
  refine am_iconst rfl ?_
  refine am_istore_n rfl ?_
  refine am_Meq (M' := mem ch (am_up S 47 (pw 0 (fun _ => 0) (S 47)))) (by rw [pw_0, am_up_self]) ?_
  show AW g _ 0 0 121 2 [some (.ref 38), some (.int (nI 0)), none, none] [] _ _
  refine am_for (n) (fun v => [some (.ref 38), some (.int (nI v)), none, none]) (fun v => mem ch (am_up S 47 (pw v (fun _ => 0) (S 47)))) (fun v hv k => ?_) ?_ (n) 0 (by omega)
  · refine am_iload_n rfl rfl ?_
    refine am_aload_n rfl rfl rfl ?_
    refine am_get rfl rfl rfl ?_
    refine am_icmp_ge rfl (fun h => absurd h (nm_lt (N.up (k := 47) (by decide)).1 hn hv)) (fun _ => ?_)
    refine am_aload_n rfl rfl rfl ?_
    refine am_get rfl rfl rfl ?_
    refine am_iload_n rfl rfl ?_
    refine am_iconst rfl ?_
    refine am_iast rfl rfl rfl (by omega) (by decide) ?_
    refine am_Meq ms47 ?_
    refine am_iinc rfl rfl ?_
    refine am_goto rfl ?_
    have e : upd (am_up S 47 (pw v (fun _ => 0) (S 47)) 47) v 0 = pw (v + 1) (fun _ => 0) (S 47) := pw_s v (fun _ => 0) (S 47)
    rw [e]
    simp only [nI_succ] at k
    exact k
  · refine am_iload_n rfl rfl ?_
    refine am_aload_n rfl rfl rfl ?_
    refine am_get rfl rfl rfl ?_
    refine am_icmp_ge rfl (fun _ => ?_) (fun h => absurd (nm_ge (N.up (k := 47) (by decide)).1 hn) h)
    refine am_iconst rfl ?_
    refine am_istore_n rfl ?_
    show AW g _ 0 0 121 15 [some (.ref 38), some (.int (nI (0 + 1))), none, none] [] _ _
    refine am_Meq (M' := mem ch (am_up S 47 (pel (bt fa fb q) n (S 38 9) 0 (S 47)))) rfl ?_
    refine am_forS (n) (fun r s => [some (.ref 38), some (.int (nI (r + 1))), s.1, s.2]) (fun r s => mem ch (am_up S 47 (pel (bt fa fb q) n (S 38 9) r (S 47)))) (fun r s => True) (fun r s hr _ k1 => ?_) (fun s _ => ?_) (n) 0 ((none, none)) (by omega) trivial
    · unfold pel at k1 ⊢
      rw [itr_s] at k1
      generalize itr (fun r => itr (pel1 (bt fa fb q) n (S 38 9) (r + 1)) n) r (pw n (fun _ => 0) (S 47)) = F at k1 ⊢
      refine am_iload_n rfl rfl ?_
      refine am_aload_n rfl rfl rfl ?_
      refine am_get rfl rfl rfl ?_
      refine am_icmp_gt rfl (fun h => absurd h (by rw [(MN.up N (k := 47) (by decide)).1]; exact nI_nlt (by omega) (by omega))) (fun _ => ?_)
      refine am_iconst rfl ?_
      refine am_istore_n rfl ?_
      show AW g _ 0 0 121 21 [some (.ref 38), some (.int (nI (r + 1))), some (.int (nI 0)), s.2] [] _ _
      refine am_Meq (M' := mem ch (am_up S 47 (itr (pel1 (bt fa fb q) n (S 38 9) (r + 1)) 0 F))) rfl ?_
      refine am_forS (n) (fun v z => [some (.ref 38), some (.int (nI (r + 1))), some (.int (nI v)), z]) (fun v z => mem ch (am_up S 47 (itr (pel1 (bt fa fb q) n (S 38 9) (r + 1)) v F))) (fun v z => True) (fun v z hv _ k => ?_) (fun z _ => ?_) (n) 0 (s.2) (by omega) trivial
      · rw [itr_s] at k
        generalize itr (pel1 (bt fa fb q) n (S 38 9) (r + 1)) v F = F1 at k ⊢
        refine am_iload_n rfl rfl ?_
        refine am_aload_n rfl rfl rfl ?_
        refine am_get rfl rfl rfl ?_
        refine am_icmp_ge rfl (fun h => absurd h (nm_lt (N.up (k := 47) (by decide)).1 hn hv)) (fun _ => ?_)
        refine am_aload_n rfl rfl rfl ?_
        refine am_get rfl rfl rfl ?_
        refine am_iload_n rfl rfl ?_
        refine am_iald rfl rfl rfl (by omega) (by decide) ?_
        refine am_if_ne rfl (fun h29 => ?_) (fun h29 => ?_)
        · refine am_iconst rfl ?_
          refine am_istore_n rfl ?_
          refine am_aload_n rfl rfl rfl ?_
          refine am_get rfl rfl rfl ?_
          refine am_iload_n rfl rfl ?_
          refine am_iload_n rfl rfl ?_
          refine am_if_eq rfl (fun _ => ?_) (fun h => absurd (by decide) h)
          refine am_aload_n rfl rfl rfl ?_
          refine am_get rfl rfl rfl ?_
          refine am_iload_n rfl rfl ?_
          refine am_iald rfl rfl rfl (by omega) (by decide) ?_
          refine am_iast rfl rfl rfl (by omega) (by decide) ?_
          refine am_Meq ms47 ?_
          refine am_iinc rfl rfl ?_
          refine am_goto rfl ?_
          simp only [pel1, decide_eq_false (show ¬ F1 v = 0 from h29), Bool.false_and, Bool.and_false, Bool.true_and, Bool.not_true, Bool.not_false, cond_true, cond_false, nI_succ v] at k
          exact k _ trivial
        · refine am_aload_n rfl rfl rfl ?_
          refine am_iload_n rfl rfl ?_
          refine am_iload_n rfl rfl ?_
          refine am_Vx [.int (nI v), .int (nI (r + 1))] rfl rfl rfl rfl rfl rfl (m_inside (d := _) (N.up (k := 47) (by decide)) (v) (nI (r + 1)) (by omega)) ?_
          refine am_aload_n rfl rfl rfl ?_
          refine am_get rfl rfl rfl ?_
          refine am_icmp_ge rfl (fun h36 => ?_) (fun h36 => ?_)
          · refine am_iconst rfl ?_
            refine am_istore_n rfl ?_
            refine am_aload_n rfl rfl rfl ?_
            refine am_get rfl rfl rfl ?_
            refine am_iload_n rfl rfl ?_
            refine am_iload_n rfl rfl ?_
            refine am_if_eq rfl (fun _ => ?_) (fun h => absurd (by decide) h)
            refine am_aload_n rfl rfl rfl ?_
            refine am_get rfl rfl rfl ?_
            refine am_iload_n rfl rfl ?_
            refine am_iald rfl rfl rfl (by omega) (by decide) ?_
            refine am_iast rfl rfl rfl (by omega) (by decide) ?_
            refine am_Meq ms47 ?_
            refine am_iinc rfl rfl ?_
            refine am_goto rfl ?_
            simp only [pel1, decide_eq_true (show F1 v = 0 from h29), decide_eq_true (show S 38 9 ≤ nI (ins (bt fa fb q) F1 n v (nI (r + 1))) from h36), Bool.false_and, Bool.and_false, Bool.true_and, Bool.not_true, Bool.not_false, cond_true, cond_false, nI_succ v] at k
            exact k _ trivial
          · refine am_iconst rfl ?_
            refine am_goto rfl ?_
            refine am_istore_n rfl ?_
            refine am_aload_n rfl rfl rfl ?_
            refine am_get rfl rfl rfl ?_
            refine am_iload_n rfl rfl ?_
            refine am_iload_n rfl rfl ?_
            refine am_if_eq rfl (fun h => absurd h (by decide)) (fun _ => ?_)
            refine am_iload_n rfl rfl ?_
            refine am_goto rfl ?_
            refine am_iast rfl rfl rfl (by omega) (by decide) ?_
            refine am_Meq ms47 ?_
            refine am_iinc rfl rfl ?_
            refine am_goto rfl ?_
            simp only [pel1, decide_eq_true (show F1 v = 0 from h29), decide_eq_false (show ¬ S 38 9 ≤ nI (ins (bt fa fb q) F1 n v (nI (r + 1))) from h36), Bool.false_and, Bool.and_false, Bool.true_and, Bool.not_true, Bool.not_false, cond_true, cond_false, nI_succ v] at k
            exact k _ trivial
      · refine am_iload_n rfl rfl ?_
        refine am_aload_n rfl rfl rfl ?_
        refine am_get rfl rfl rfl ?_
        refine am_icmp_ge rfl (fun _ => ?_) (fun h => absurd (nm_ge (N.up (k := 47) (by decide)).1 hn) h)
        refine am_iinc rfl rfl ?_
        refine am_goto rfl ?_
        have k1 := k1 (some (.int (nI n)), z) trivial
        rw [nI_succ (r + 1)] at k1
        exact k1
    · refine am_iload_n rfl rfl ?_
      refine am_aload_n rfl rfl rfl ?_
      refine am_get rfl rfl rfl ?_
      refine am_icmp_gt rfl (fun _ => ?_) (fun h => absurd (show am_up S 47 _ 38 0 < nI (n + 1) by rw [(N.up (k := 47) (by decide)).1]; exact nI_lt (by omega) (by omega)) h)
      exact am_return rfl ⟨rfl, rfl⟩
end MM4
