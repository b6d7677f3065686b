/-! the model: pick, match -/
theorem am_up_comm (S : am_S0) {j k : Nat} (f h : Nat → Int32) (e : j ≠ k) : am_up (am_up S j f) k h = am_up (am_up S k h) j f := by
  funext i
  unfold am_up
  by_cases h1 : i = k
  · rw [if_pos h1, if_neg (by omega), if_pos h1]
  · rw [if_neg h1]
    by_cases h2 : i = j
    · rw [if_pos h2, if_pos h2]
    · rw [if_neg h2, if_neg h2, if_neg h1]
theorem mt46 {ch : Option Nat} {S : am_S0} {f h f2 : Nat → Int32} : (mem ch (am_up (am_up S 46 f) 47 h)).set 46 (.inl (0, 12, .inl f2)) = mem ch (am_up (am_up S 46 f2) 47 h) := by
  show mem ch (am_up (am_up (am_up S 46 f) 47 h) 46 f2) = _
  rw [am_up_comm _ h f2 (by decide), am_up_up]
theorem mt47 {ch : Option Nat} {S : am_S0} {f h f2 : Nat → Int32} : (mem ch (am_up (am_up S 46 f) 47 h)).set 47 (.inl (0, 12, .inl f2)) = mem ch (am_up (am_up S 46 f) 47 f2) := ms47
theorem bif_or {α : Type} {c : Bool} {a b x : α} (h : (bif c then a else b) = x) : a = x ∨ b = x := by cases c; exact Or.inr h; exact Or.inl h
def pk1 (ids en : Nat → Int32) (u : Nat) (v : Option Nat) : Option Nat := bif decide (en u = 0) && (match v with | none => true | some w => !decide (ids u ≤ ids w)) then some u else v
def pkv (ids en : Nat → Int32) (n : Nat) : Option Nat := itr (pk1 ids en) n none
theorem pk1_lt {ids en : Nat → Int32} : ∀ {k x : Nat}, itr (pk1 ids en) k none = some x → x < k
  | 0, x, h => by cases h
  | k + 1, x, h => by
    rw [itr_s] at h
    have ih := @pk1_lt ids en k
    generalize itr (pk1 ids en) k none = w at h ih
    unfold pk1 at h
    rcases bif_or h with h | h
    · have : k = x := Option.some.inj h
      omega
    · have := ih h
      omega
def pk2 (A : Nat → Nat → Option Nat) (en wh : Nat → Int32) (x u : Nat) (p : Int32 × Int32) : Int32 × Int32 := (bif (A u x).isSome && decide (en u = 1) then (bif decide (p.1 ≤ wh u) then p.1 else wh u) else p.1, bif (A u x).isSome && decide (en u = 2) then (bif decide (wh u ≤ p.2) then p.2 else wh u) else p.2)
def pkU (A : Nat → Nat → Option Nat) (n : Nat) (s : (Nat → Int32) × (Nat → Int32)) (x : Nat) : (Nat → Int32) × (Nat → Int32) := (upd s.1 x (bif decide (1000000 ≤ (itr (pk2 A s.1 s.2 x) n (1000000, 0)).1) then 1 else 2), upd s.2 x (bif decide (1000000 ≤ (itr (pk2 A s.1 s.2 x) n (1000000, 0)).1) then (itr (pk2 A s.1 s.2 x) n (1000000, 0)).2 + 1 else (itr (pk2 A s.1 s.2 x) n (1000000, 0)).1))
def pkS (A : Nat → Nat → Option Nat) (ids : Nat → Int32) (n : Nat) (s : (Nat → Int32) × (Nat → Int32)) : (Nat → Int32) × (Nat → Int32) := match pkv ids s.1 n with
  | none => s
  | some x => pkU A n s x
def pck (A : Nat → Nat → Option Nat) (ids : Nat → Int32) (n k : Nat) (f h : Nat → Int32) : (Nat → Int32) × (Nat → Int32) := itr (fun _ => pkS A ids n) k (pw n (fun _ => 0) f, h)
section MM5
variable {g : am_G} {d : Nat} {ch : Option Nat} {S : am_S0} {n q : Nat} {fa fb : Nat → Nat}
theorem m_pk1 (N : MN S n q fa fb) {K : am_K} (k0 : Nat) (y : Option Value × Option Value) (kk : AW g d 0 0 117 49 [some (.ref 38), some (.int (nI k0)), some (.int (em (pkv (S 42) (S 46) n))), some (.int (nI n)), y.1, y.2] [] (mem ch S) K) : AW g d 0 0 117 23 [some (.ref 38), some (.int (nI k0)), some (.int (-1)), some (.int (nI 0)), y.1, y.2] [] (mem ch S) K := by
  have hn := N.2.1
  refine am_for (n) (fun v => [some (.ref 38), some (.int (nI k0)), some (.int (em (itr (pk1 (S 42) (S 46)) v none))), some (.int (nI v)), y.1, y.2]) (fun v => mem ch S) (fun v hv k => ?_) ?_ (n) 0 (by omega)
  · rw [itr_s] at k
    have hw := @pk1_lt (S 42) (S 46) v
    generalize itr (pk1 (S 42) (S 46)) v none = w at k hw ⊢
    rcases w with _ | w
    · refine am_iload_n rfl rfl ?_
      refine am_aload_n rfl rfl rfl ?_
      refine am_get rfl rfl rfl ?_
      refine am_icmp_ge rfl (fun h => absurd h (nm_lt N.1 hn hv)) (fun _ => ?_)
      refine am_aload_n rfl rfl rfl ?_
      refine am_get rfl rfl rfl ?_
      refine am_iload_n rfl rfl ?_
      refine am_iald rfl rfl rfl (by omega) (by decide) ?_
      refine am_if_ne rfl (fun h31 => ?_) (fun h31 => ?_)
      · refine am_iload_n rfl rfl ?_
        refine am_istore_n rfl ?_
        refine am_iinc rfl rfl ?_
        refine am_goto rfl ?_
        simp only [pk1, decide_eq_false h31, Bool.false_and, Bool.true_and, Bool.not_true, Bool.not_false, cond_true, cond_false, nI_succ] at k
        exact k
      · refine am_iload_n rfl rfl ?_
        refine am_if_lt rfl (fun _ => ?_) (fun h => absurd (by decide) h)
        refine am_iload_n rfl rfl ?_
        refine am_goto rfl ?_
        refine am_istore_n rfl ?_
        refine am_iinc rfl rfl ?_
        refine am_goto rfl ?_
        simp only [pk1, decide_eq_true h31, Bool.false_and, Bool.true_and, Bool.not_true, Bool.not_false, cond_true, cond_false, nI_succ] at k
        exact k
    · have hw2 := hw (x := w) rfl
      refine am_iload_n rfl rfl ?_
      refine am_aload_n rfl rfl rfl ?_
      refine am_get rfl rfl rfl ?_
      refine am_icmp_ge rfl (fun h => absurd h (nm_lt N.1 hn hv)) (fun _ => ?_)
      refine am_aload_n rfl rfl rfl ?_
      refine am_get rfl rfl rfl ?_
      refine am_iload_n rfl rfl ?_
      refine am_iald rfl rfl rfl (by omega) (by decide) ?_
      refine am_if_ne rfl (fun h31 => ?_) (fun h31 => ?_)
      · refine am_iload_n rfl rfl ?_
        refine am_istore_n rfl ?_
        refine am_iinc rfl rfl ?_
        refine am_goto rfl ?_
        simp only [pk1, decide_eq_false h31, Bool.false_and, Bool.true_and, Bool.not_true, Bool.not_false, cond_true, cond_false, nI_succ] at k
        exact k
      · refine am_iload_n rfl rfl ?_
        refine am_if_lt rfl (fun h => absurd h (nI_pos (n := w) (by omega))) (fun _ => ?_)
        refine am_aload_n rfl rfl rfl ?_
        refine am_get rfl rfl rfl ?_
        refine am_iload_n rfl rfl ?_
        refine am_iald rfl rfl rfl (by omega) (by decide) ?_
        refine am_aload_n rfl rfl rfl ?_
        refine am_get rfl rfl rfl ?_
        refine am_iload_n rfl rfl ?_
        refine am_iald rfl rfl rfl (by omega) (by decide) ?_
        refine am_icmp_le rfl (fun h42 => ?_) (fun h42 => ?_)
        · refine am_iload_n rfl rfl ?_
          refine am_istore_n rfl ?_
          refine am_iinc rfl rfl ?_
          refine am_goto rfl ?_
          simp only [pk1, decide_eq_true h31, decide_eq_true h42, Bool.false_and, Bool.true_and, Bool.not_true, Bool.not_false, cond_true, cond_false, nI_succ] at k
          exact k
        · refine am_iload_n rfl rfl ?_
          refine am_goto rfl ?_
          refine am_istore_n rfl ?_
          refine am_iinc rfl rfl ?_
          refine am_goto rfl ?_
          simp only [pk1, decide_eq_true h31, decide_eq_false h42, Bool.false_and, Bool.true_and, Bool.not_true, Bool.not_false, cond_true, cond_false, nI_succ] at k
          exact k
  · refine am_iload_n rfl rfl ?_
    refine am_aload_n rfl rfl rfl ?_
    refine am_get rfl rfl rfl ?_
    refine am_icmp_ge rfl (fun _ => ?_) (fun h => absurd (nm_ge N.1 hn) h)
    exact kk
theorem m_pk2 (N : MN S n q fa fb) {K : am_K} (k0 x : Nat) (hx : x < n) (kk : AW g (d + 2) 0 0 117 109 [some (.ref 38), some (.int (nI k0)), some (.int (nI x)), some (.int (itr (pk2 (bt fa fb q) (S 46) (S 47) x) n (1000000, 0)).1), some (.int (itr (pk2 (bt fa fb q) (S 46) (S 47) x) n (1000000, 0)).2), some (.int (nI n))] [] (mem ch S) K) : AW g (d + 2) 0 0 117 55 [some (.ref 38), some (.int (nI k0)), some (.int (nI x)), some (.int 1000000), some (.int 0), some (.int (nI 0))] [] (mem ch S) K := by
  have hn := N.2.1
  refine am_for (n) (fun v => [some (.ref 38), some (.int (nI k0)), some (.int (nI x)), some (.int ((itr (pk2 (bt fa fb q) (S 46) (S 47) x) v (1000000, 0)).1)), some (.int ((itr (pk2 (bt fa fb q) (S 46) (S 47) x) v (1000000, 0)).2)), some (.int (nI v))]) (fun v => mem ch S) (fun v hv k => ?_) ?_ (n) 0 (by omega)
  · rw [itr_s] at k
    generalize itr (pk2 (bt fa fb q) (S 46) (S 47) x) v (1000000, 0) = p at k ⊢
    refine am_iload rfl rfl ?_
    refine am_aload_n rfl rfl rfl ?_
    refine am_get rfl rfl rfl ?_
    refine am_icmp_ge rfl (fun h => absurd h (nm_lt N.1 hn hv)) (fun _ => ?_)
    refine am_aload_n rfl rfl rfl ?_
    refine am_iload rfl rfl ?_
    refine am_iload_n rfl rfl ?_
    refine am_Vx [.int (nI v), .int (nI x)] rfl rfl rfl rfl rfl rfl (m_areN (d := _) N (v) (x) (by omega) (by omega)) ?_
    refine am_if_eq rfl (fun h63 => ?_) (fun h63 => ?_)
    · refine am_aload_n rfl rfl rfl ?_
      refine am_iload rfl rfl ?_
      refine am_iload_n rfl rfl ?_
      refine am_Vx [.int (nI v), .int (nI x)] rfl rfl rfl rfl rfl rfl (m_areN (d := _) N (v) (x) (by omega) (by omega)) ?_
      refine am_if_eq rfl (fun _ => ?_) (fun h => absurd (show bi (bt fa fb q v x).isSome = 0 by rw [bi_0 h63]; rfl) h)
      refine am_iinc rfl rfl ?_
      refine am_goto rfl ?_
      simp only [pk2, bi_0 h63, Bool.false_and, Bool.true_and, cond_true, cond_false, nI_succ] at k
      exact k
    · refine am_aload_n rfl rfl rfl ?_
      refine am_get rfl rfl rfl ?_
      refine am_iload rfl rfl ?_
      refine am_iald rfl rfl rfl (by omega) (by decide) ?_
      refine am_iconst rfl ?_
      refine am_icmp_ne rfl (fun h69 => ?_) (fun h69 => ?_)
      · refine am_aload_n rfl rfl rfl ?_
        refine am_iload rfl rfl ?_
        refine am_iload_n rfl rfl ?_
        refine am_Vx [.int (nI v), .int (nI x)] rfl rfl rfl rfl rfl rfl (m_areN (d := _) N (v) (x) (by omega) (by omega)) ?_
        refine am_if_eq rfl (fun h => absurd h (by rw [bi_1 h63]; decide)) (fun _ => ?_)
        refine am_aload_n rfl rfl rfl ?_
        refine am_get rfl rfl rfl ?_
        refine am_iload rfl rfl ?_
        refine am_iald rfl rfl rfl (by omega) (by decide) ?_
        refine am_iconst rfl ?_
        refine am_icmp_ne rfl (fun h93 => ?_) (fun h93 => ?_)
        · refine am_iinc rfl rfl ?_
          refine am_goto rfl ?_
          simp only [pk2, bi_1 h63, decide_eq_false h69, decide_eq_false h93, Bool.false_and, Bool.true_and, cond_true, cond_false, nI_succ] at k
          exact k
        · refine am_aload_n rfl rfl rfl ?_
          refine am_get rfl rfl rfl ?_
          refine am_iload rfl rfl ?_
          refine am_iald rfl rfl rfl (by omega) (by decide) ?_
          refine am_iload rfl rfl ?_
          refine am_icmp_le rfl (fun h99 => ?_) (fun h99 => ?_)
          · refine am_iload rfl rfl ?_
            refine am_istore rfl ?_
            refine am_iinc rfl rfl ?_
            refine am_goto rfl ?_
            simp only [pk2, bi_1 h63, decide_eq_false h69, decide_eq_true h93, decide_eq_true h99, Bool.false_and, Bool.true_and, cond_true, cond_false, nI_succ] at k
            exact k
          · refine am_aload_n rfl rfl rfl ?_
            refine am_get rfl rfl rfl ?_
            refine am_iload rfl rfl ?_
            refine am_iald rfl rfl rfl (by omega) (by decide) ?_
            refine am_goto rfl ?_
            refine am_istore rfl ?_
            refine am_iinc rfl rfl ?_
            refine am_goto rfl ?_
            simp only [pk2, bi_1 h63, decide_eq_false h69, decide_eq_true h93, decide_eq_false h99, Bool.false_and, Bool.true_and, cond_true, cond_false, nI_succ] at k
            exact k
      · refine am_aload_n rfl rfl rfl ?_
        refine am_get rfl rfl rfl ?_
        refine am_iload rfl rfl ?_
        refine am_iald rfl rfl rfl (by omega) (by decide) ?_
        refine am_iload_n rfl rfl ?_
        refine am_icmp_ge rfl (fun h75 => ?_) (fun h75 => ?_)
        · refine am_iload_n rfl rfl ?_
          refine am_istore_n rfl ?_
          refine am_aload_n rfl rfl rfl ?_
          refine am_iload rfl rfl ?_
          refine am_iload_n rfl rfl ?_
          refine am_Vx [.int (nI v), .int (nI x)] rfl rfl rfl rfl rfl rfl (m_areN (d := _) N (v) (x) (by omega) (by omega)) ?_
          refine am_if_eq rfl (fun h => absurd h (by rw [bi_1 h63]; decide)) (fun _ => ?_)
          refine am_aload_n rfl rfl rfl ?_
          refine am_get rfl rfl rfl ?_
          refine am_iload rfl rfl ?_
          refine am_iald rfl rfl rfl (by omega) (by decide) ?_
          refine am_iconst rfl ?_
          refine am_icmp_ne rfl (fun h93 => ?_) (fun h93 => ?_)
          · refine am_iinc rfl rfl ?_
            refine am_goto rfl ?_
            simp only [pk2, bi_1 h63, decide_eq_true h69, decide_eq_true h75, decide_eq_false h93, Bool.false_and, Bool.true_and, cond_true, cond_false, nI_succ] at k
            exact k
          · refine am_aload_n rfl rfl rfl ?_
            refine am_get rfl rfl rfl ?_
            refine am_iload rfl rfl ?_
            refine am_iald rfl rfl rfl (by omega) (by decide) ?_
            refine am_iload rfl rfl ?_
            refine am_icmp_le rfl (fun h99 => ?_) (fun h99 => ?_)
            · refine am_iload rfl rfl ?_
              refine am_istore rfl ?_
              refine am_iinc rfl rfl ?_
              refine am_goto rfl ?_
              simp only [pk2, bi_1 h63, decide_eq_true h69, decide_eq_true h75, decide_eq_true h93, decide_eq_true h99, Bool.false_and, Bool.true_and, cond_true, cond_false, nI_succ] at k
              exact k
            · refine am_aload_n rfl rfl rfl ?_
              refine am_get rfl rfl rfl ?_
              refine am_iload rfl rfl ?_
              refine am_iald rfl rfl rfl (by omega) (by decide) ?_
              refine am_goto rfl ?_
              refine am_istore rfl ?_
              refine am_iinc rfl rfl ?_
              refine am_goto rfl ?_
              simp only [pk2, bi_1 h63, decide_eq_true h69, decide_eq_true h75, decide_eq_true h93, decide_eq_false h99, Bool.false_and, Bool.true_and, cond_true, cond_false, nI_succ] at k
              exact k
        · refine am_aload_n rfl rfl rfl ?_
          refine am_get rfl rfl rfl ?_
          refine am_iload rfl rfl ?_
          refine am_iald rfl rfl rfl (by omega) (by decide) ?_
          refine am_goto rfl ?_
          refine am_istore_n rfl ?_
          refine am_aload_n rfl rfl rfl ?_
          refine am_iload rfl rfl ?_
          refine am_iload_n rfl rfl ?_
          refine am_Vx [.int (nI v), .int (nI x)] rfl rfl rfl rfl rfl rfl (m_areN (d := _) N (v) (x) (by omega) (by omega)) ?_
          refine am_if_eq rfl (fun h => absurd h (by rw [bi_1 h63]; decide)) (fun _ => ?_)
          refine am_aload_n rfl rfl rfl ?_
          refine am_get rfl rfl rfl ?_
          refine am_iload rfl rfl ?_
          refine am_iald rfl rfl rfl (by omega) (by decide) ?_
          refine am_iconst rfl ?_
          refine am_icmp_ne rfl (fun h93 => ?_) (fun h93 => ?_)
          · refine am_iinc rfl rfl ?_
            refine am_goto rfl ?_
            simp only [pk2, bi_1 h63, decide_eq_true h69, decide_eq_false h75, decide_eq_false h93, Bool.false_and, Bool.true_and, cond_true, cond_false, nI_succ] at k
            exact k
          · refine am_aload_n rfl rfl rfl ?_
            refine am_get rfl rfl rfl ?_
            refine am_iload rfl rfl ?_
            refine am_iald rfl rfl rfl (by omega) (by decide) ?_
            refine am_iload rfl rfl ?_
            refine am_icmp_le rfl (fun h99 => ?_) (fun h99 => ?_)
            · refine am_iload rfl rfl ?_
              refine am_istore rfl ?_
              refine am_iinc rfl rfl ?_
              refine am_goto rfl ?_
              simp only [pk2, bi_1 h63, decide_eq_true h69, decide_eq_false h75, decide_eq_true h93, decide_eq_true h99, Bool.false_and, Bool.true_and, cond_true, cond_false, nI_succ] at k
              exact k
            · refine am_aload_n rfl rfl rfl ?_
              refine am_get rfl rfl rfl ?_
              refine am_iload rfl rfl ?_
              refine am_iald rfl rfl rfl (by omega) (by decide) ?_
              refine am_goto rfl ?_
              refine am_istore rfl ?_
              refine am_iinc rfl rfl ?_
              refine am_goto rfl ?_
              simp only [pk2, bi_1 h63, decide_eq_true h69, decide_eq_false h75, decide_eq_true h93, decide_eq_false h99, Bool.false_and, Bool.true_and, cond_true, cond_false, nI_succ] at k
              exact k
  · refine am_iload rfl rfl ?_
    refine am_aload_n rfl rfl rfl ?_
    refine am_get rfl rfl rfl ?_
    refine am_icmp_ge rfl (fun _ => ?_) (fun h => absurd (nm_ge N.1 hn) h)
    exact kk
theorem m_pick (N : MN S n q fa fb) (hp : ∀ k, k < n → (pkv (S 42) (pck (bt fa fb q) (S 42) n k (S 46) (S 47)).1 n).isSome = true) : AW g (d + 2) 0 0 117 0 (am_L0 117 [.ref 38]) [] (mem ch S) (am_is none (mem ch (am_up (am_up S 46 (pck (bt fa fb q) (S 42) n n (S 46) (S 47)).1) 47 (pck (bt fa fb q) (S 42) n n (S 46) (S 47)).2))) := by
  have hn := N.2.1
  refine am_iconst rfl ?_
  refine am_istore_n rfl ?_
  refine am_Meq (M' := mem ch (am_up S 46 (pw 0 (fun _ => 0) (S 46)))) (by rw [pw_0, am_up_self]) ?_
  show AW g _ 0 0 117 2 [some (.ref 38), some (.int (nI 0)), none, none, none, none] [] _ _
  refine am_for (n) (fun v => [some (.ref 38), some (.int (nI v)), none, none, none, none]) (fun v => mem ch (am_up S 46 (pw v (fun _ => 0) (S 46)))) (fun v hv k => ?_) ?_ (n) 0 (by omega)
  · refine am_iload_n rfl rfl ?_
    refine am_aload_n rfl rfl rfl ?_
    refine am_get rfl rfl rfl ?_
    refine am_icmp_ge rfl (fun h => absurd h (nm_lt (N.up (k := 46) (by decide)).1 hn hv)) (fun _ => ?_)
    refine am_aload_n rfl rfl rfl ?_
    refine am_get rfl rfl rfl ?_
    refine am_iload_n rfl rfl ?_
    refine am_iconst rfl ?_
    refine am_iast rfl rfl rfl (by omega) (by decide) ?_
    refine am_Meq ms46 ?_
    refine am_iinc rfl rfl ?_
    refine am_goto rfl ?_
    have e : upd (am_up S 46 (pw v (fun _ => 0) (S 46)) 46) v 0 = pw (v + 1) (fun _ => 0) (S 46) := pw_s v (fun _ => 0) (S 46)
    rw [e]
    simp only [nI_succ] at k
    exact k
  · refine am_iload_n rfl rfl ?_
    refine am_aload_n rfl rfl rfl ?_
    refine am_get rfl rfl rfl ?_
    refine am_icmp_ge rfl (fun _ => ?_) (fun h => absurd (nm_ge (N.up (k := 46) (by decide)).1 hn) h)
    refine am_iconst rfl ?_
    refine am_istore_n rfl ?_
    show AW g _ 0 0 117 15 [some (.ref 38), some (.int (nI 0)), none, none, none, none] [] _ _
    refine am_Meq (M' := mem ch (am_up (am_up S 46 (pck (bt fa fb q) (S 42) n 0 (S 46) (S 47)).1) 47 (pck (bt fa fb q) (S 42) n 0 (S 46) (S 47)).2)) (congrArg (mem ch) (am_up_self (am_up S 46 (pw n (fun _ => 0) (S 46))) 47).symm) ?_
    refine am_forS (n) (fun v s => [some (.ref 38), some (.int (nI v)), s.1, s.2.1, s.2.2.1, s.2.2.2]) (fun v s => mem ch (am_up (am_up S 46 (pck (bt fa fb q) (S 42) n v (S 46) (S 47)).1) 47 (pck (bt fa fb q) (S 42) n v (S 46) (S 47)).2)) (fun v s => True) (fun v s hv _ k => ?_) (fun s _ => ?_) (n) 0 ((none, none, none, none)) (by omega) trivial
    · have hq1 := hp v hv
      unfold pck at k hq1 ⊢
      rw [itr_s] at k
      generalize itr (fun _ => pkS (bt fa fb q) (S 42) n) v (pw n (fun _ => 0) (S 46), S 47) = s1 at k hq1 ⊢
      refine am_iload_n rfl rfl ?_
      refine am_aload_n rfl rfl rfl ?_
      refine am_get rfl rfl rfl ?_
      refine am_icmp_ge rfl (fun h => absurd h (nm_lt (((N.up (k := 46) (by decide)).up (k := 47) (by decide))).1 hn hv)) (fun _ => ?_)
      refine am_iconst rfl ?_
      refine am_istore_n rfl ?_
      refine am_iconst rfl ?_
      refine am_istore_n rfl ?_
      refine m_pk1 (y := (s.2.2.1, s.2.2.2)) (((N.up (k := 46) (by decide)).up (k := 47) (by decide))) v ?_
      show AW g _ 0 0 117 49 [some (.ref 38), some (.int (nI v)), some (.int (em (pkv (S 42) s1.1 n))), some (.int (nI n)), s.2.2.1, s.2.2.2] [] _ _
      obtain ⟨x, hx⟩ := Option.isSome_iff_exists.mp hq1
      have hxn : x < n := pk1_lt hx
      rw [show pkS (bt fa fb q) (S 42) n s1 = pkU (bt fa fb q) n s1 x by unfold pkS; rw [hx]] at k
      rw [hx]
      refine am_ldc rfl ?_
      refine am_istore_n rfl ?_
      refine am_iconst rfl ?_
      refine am_istore rfl ?_
      refine am_iconst rfl ?_
      refine am_istore rfl ?_
      refine m_pk2 (d := d) (((N.up (k := 46) (by decide)).up (k := 47) (by decide))) v x hxn ?_
      show AW g _ 0 0 117 109 [some (.ref 38), some (.int (nI v)), some (.int (nI x)), some (.int (itr (pk2 (bt fa fb q) s1.1 s1.2 x) n (1000000, 0)).1), some (.int (itr (pk2 (bt fa fb q) s1.1 s1.2 x) n (1000000, 0)).2), some (.int (nI n))] [] (mem ch (am_up (am_up S 46 s1.1) 47 s1.2)) _
      refine am_aload_n rfl rfl rfl ?_
      refine am_get rfl rfl rfl ?_
      refine am_iload_n rfl rfl ?_
      refine am_iload_n rfl rfl ?_
      refine am_ldc rfl ?_
      refine am_icmp_ge rfl (fun h114 => ?_) (fun h114 => ?_)
      · refine am_iconst rfl ?_
        refine am_iast rfl rfl rfl (by omega) (by decide) ?_
        refine am_Meq mt46 ?_
        refine am_aload_n rfl rfl rfl ?_
        refine am_get rfl rfl rfl ?_
        refine am_iload_n rfl rfl ?_
        refine am_iload_n rfl rfl ?_
        refine am_ldc rfl ?_
        refine am_icmp_ge rfl (fun _ => ?_) (fun h => absurd h114 h)
        refine am_iload rfl rfl ?_
        refine am_iconst rfl ?_
        refine am_iadd rfl ?_
        refine am_iast rfl rfl rfl (by omega) (by decide) ?_
        refine am_Meq mt47 ?_
        refine am_iinc rfl rfl ?_
        refine am_goto rfl ?_
        simp only [pkU, decide_eq_true (show 1000000 ≤ (itr (pk2 (bt fa fb q) s1.1 s1.2 x) n (1000000, 0)).1 from h114), cond_true, cond_false, nI_succ] at k
        exact k (_, _, _, _) trivial
      · refine am_iconst rfl ?_
        refine am_goto rfl ?_
        refine am_iast rfl rfl rfl (by omega) (by decide) ?_
        refine am_Meq mt46 ?_
        refine am_aload_n rfl rfl rfl ?_
        refine am_get rfl rfl rfl ?_
        refine am_iload_n rfl rfl ?_
        refine am_iload_n rfl rfl ?_
        refine am_ldc rfl ?_
        refine am_icmp_ge rfl (fun h => absurd h h114) (fun _ => ?_)
        refine am_iload_n rfl rfl ?_
        refine am_goto rfl ?_
        refine am_iast rfl rfl rfl (by omega) (by decide) ?_
        refine am_Meq mt47 ?_
        refine am_iinc rfl rfl ?_
        refine am_goto rfl ?_
        simp only [pkU, decide_eq_false (show ¬ 1000000 ≤ (itr (pk2 (bt fa fb q) s1.1 s1.2 x) n (1000000, 0)).1 from h114), cond_true, cond_false, nI_succ] at k
        exact k (_, _, _, _) trivial
    · refine am_iload_n rfl rfl ?_
      refine am_aload_n rfl rfl rfl ?_
      refine am_get rfl rfl rfl ?_
      refine am_icmp_ge rfl (fun _ => ?_) (fun h => absurd (nm_ge (((N.up (k := 46) (by decide)).up (k := 47) (by decide))).1 hn) h)
      exact am_return rfl ⟨rfl, rfl⟩
end MM5
