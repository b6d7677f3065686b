/-! the model: match -/
def ov (x : Option Nat) (p : Nat → Bool) : Bool := match x with
  | none => true
  | some y => p y
def mt1 (w : Nat → Int32) (last : Option Nat) (f : Nat) (e : Option Nat) : Option Nat := bif ov last (fun l => hvy w l f) && ov e (fun x => hvy w f x) then some f else e
theorem mt1_lt {w : Nat → Int32} {last : Option Nat} : ∀ {k x : Nat}, itr (mt1 w last) k none = some x → x < k
  | 0, x, h => by cases h
  | k + 1, x, h => by
    rw [itr_s] at h
    have ih := @mt1_lt w last k
    generalize itr (mt1 w last) k none = e at h ih
    unfold mt1 at h
    rcases bif_or h with h | h
    · have : k = x := Option.some.inj h
      omega
    · have := ih h
      omega
/-- the other end of an edge -/
def oth (fa fb : Nat → Nat) (f a : Nat) : Nat := bif decide (fa f = a) then fb f else fa f
theorem oth_I {fa fb : Nat → Nat} {f a : Nat} (h : isf fa fb f a = true) : nI (fa f) + nI (fb f) - nI a = nI (oth fa fb f a) := by
  rw [nI_add]
  unfold isf at h
  unfold oth
  by_cases e : fa f = a
  · rw [decide_eq_true e, cond_true, ← e, pk_sub (by omega)]
    congr 1
    omega
  · rw [decide_eq_false e, Bool.false_or] at h
    rw [decide_eq_false e, cond_false, ← of_decide_eq_true h, pk_sub (by omega)]
    congr 1
    omega
def mt2 (fa fb : Nat → Nat) (w wh : Nat → Int32) (e a b f : Nat) (x : Int32) : Int32 := bif hvy w f e && (isf fa fb f a || isf fa fb f b) then (bif decide (wh (bif isf fa fb f a then oth fa fb f a else oth fa fb f b) ≤ x) then x else wh (bif isf fa fb f a then oth fa fb f a else oth fa fb f b)) else x
abbrev mtT : Type := (Nat → Int32) × (Nat → Int32)
def mtW (fa fb : Nat → Nat) (w : Nat → Int32) (q : Nat) (s : mtT) (e : Nat) : Int32 := itr (mt2 fa fb w s.2 e (fa e) (fb e)) q 0
def mtU (fa fb : Nat → Nat) (w : Nat → Int32) (q : Nat) (s : mtT) (e : Nat) : mtT := bif !decide (0 ≤ s.1 (fa e)) && !decide (0 ≤ s.1 (fb e)) then (upd (upd s.1 (fa e) (nI (fb e))) (fb e) (nI (fa e)), upd (upd s.2 (fa e) (mtW fa fb w q s e + 1)) (fb e) (mtW fa fb w q s e + 1)) else s
def mtS (fa fb : Nat → Nat) (w : Nat → Int32) (q : Nat) (s : Option Nat × mtT) : Option Nat × mtT := match itr (mt1 w s.1) q none with
  | none => s
  | some e => (some e, mtU fa fb w q s.2 e)
def mch0 (n : Nat) (f h : Nat → Int32) : mtT := (pw n (fun _ => -1) f, pw n (fun _ => 0) h)
def mtc (fa fb : Nat → Nat) (w : Nat → Int32) (n q k : Nat) (f h : Nat → Int32) : Option Nat × mtT := itr (fun _ => mtS fa fb w q) k (none, mch0 n f h)
theorem oth_lt {fa fb : Nat → Nat} {f a : Nat} (h1 : fa f < 12) (h2 : fb f < 12) : oth fa fb f a < 12 := by
  unfold oth
  cases decide (fa f = a)
  · exact h1
  · exact h2
section MM6
variable {g : am_G} {d : Nat} {ch : Option Nat} {S : am_S0} {n q : Nat} {fa fb : Nat → Nat}
theorem m_mt1 (N : MN S n q fa fb) {K : am_K} (k0 : Nat) (last : Option Nat) (hl : ∀ l, last = some l → l < q) (z0 : Option Value) (y : Option Value × Option Value × Option Value) (kk : ∀ z, AW g (d + 1) 0 0 118 60 [some (.ref 38), some (.int (em last)), some (.int (nI k0)), some (.int (em (itr (mt1 (S 41) last) q none))), some (.int (nI q)), z, y.1, y.2.1, y.2.2] [] (mem ch S) K) : AW g (d + 1) 0 0 118 30 [some (.ref 38), some (.int (em last)), some (.int (nI k0)), some (.int (-1)), some (.int (nI 0)), z0, y.1, y.2.1, y.2.2] [] (mem ch S) K := by
  have hn := N.2.1
  have hq := N.2.2.2.1
  refine am_forS (q) (fun v z => [some (.ref 38), some (.int (em last)), some (.int (nI k0)), some (.int (em (itr (mt1 (S 41) last) v none))), some (.int (nI v)), z, y.1, y.2.1, y.2.2]) (fun v z => mem ch S) (fun v z => True) (fun v z hv _ k => ?_) (fun z _ => ?_) (q) 0 (z0) (by omega) trivial
  · rw [itr_s] at k
    have hx := @mt1_lt (S 41) last v
    generalize itr (mt1 (S 41) last) v none = e at k hx ⊢
    rcases last with _ | l
    · rcases e with _ | x
      · refine am_iload rfl rfl ?_
        refine am_aload_n rfl rfl rfl ?_
        refine am_get rfl rfl rfl ?_
        refine am_icmp_ge rfl (fun h => absurd h (ed_lt N hv)) (fun _ => ?_)
        refine am_iload_n rfl rfl ?_
        refine am_if_lt rfl (fun _ => ?_) (fun h => absurd (by decide) h)
        refine am_iconst rfl ?_
        refine am_goto rfl ?_
        refine am_istore rfl ?_
        refine am_iload rfl rfl ?_
        refine am_if_eq rfl (fun h => absurd h (by decide)) (fun _ => ?_)
        refine am_iload_n rfl rfl ?_
        refine am_if_lt rfl (fun _ => ?_) (fun h => absurd (by decide) h)
        refine am_iload rfl rfl ?_
        refine am_goto rfl ?_
        refine am_istore_n rfl ?_
        refine am_iinc rfl rfl ?_
        refine am_goto rfl ?_
        simp only [mt1, ov, Bool.false_and, Bool.true_and, Bool.and_self, cond_true, cond_false, nI_succ] at k
        exact k _ trivial
      · have hx2 := hx (x := x) rfl
        refine am_iload rfl rfl ?_
        refine am_aload_n rfl rfl rfl ?_
        refine am_get rfl rfl rfl ?_
        refine am_icmp_ge rfl (fun h => absurd h (ed_lt N hv)) (fun _ => ?_)
        refine am_iload_n rfl rfl ?_
        refine am_if_lt rfl (fun _ => ?_) (fun h => absurd (by decide) h)
        refine am_iconst rfl ?_
        refine am_goto rfl ?_
        refine am_istore rfl ?_
        refine am_iload rfl rfl ?_
        refine am_if_eq rfl (fun h => absurd h (by decide)) (fun _ => ?_)
        refine am_iload_n rfl rfl ?_
        refine am_if_lt rfl (fun h => absurd h (nI_pos (n := x) (by omega))) (fun _ => ?_)
        refine am_aload_n rfl rfl rfl ?_
        refine am_iload rfl rfl ?_
        refine am_iload_n rfl rfl ?_
        refine am_Vx [.int (nI v), .int (nI x)] rfl rfl rfl rfl rfl rfl (m_heavier (d := _) (v) (x) (by omega) (by omega)) ?_
        refine am_if_eq rfl (fun h53 => ?_) (fun h53 => ?_)
        · refine am_iload_n rfl rfl ?_
          refine am_istore_n rfl ?_
          refine am_iinc rfl rfl ?_
          refine am_goto rfl ?_
          simp only [mt1, ov, bi_0 h53, Bool.false_and, Bool.true_and, Bool.and_self, cond_true, cond_false, nI_succ] at k
          exact k _ trivial
        · refine am_iload rfl rfl ?_
          refine am_goto rfl ?_
          refine am_istore_n rfl ?_
          refine am_iinc rfl rfl ?_
          refine am_goto rfl ?_
          simp only [mt1, ov, bi_1 h53, Bool.false_and, Bool.true_and, Bool.and_self, cond_true, cond_false, nI_succ] at k
          exact k _ trivial
    · rcases e with _ | x
      · have hl2 := hl l rfl
        refine am_iload rfl rfl ?_
        refine am_aload_n rfl rfl rfl ?_
        refine am_get rfl rfl rfl ?_
        refine am_icmp_ge rfl (fun h => absurd h (ed_lt N hv)) (fun _ => ?_)
        refine am_iload_n rfl rfl ?_
        refine am_if_lt rfl (fun h => absurd h (nI_pos (n := l) (by omega))) (fun _ => ?_)
        refine am_aload_n rfl rfl rfl ?_
        refine am_iload_n rfl rfl ?_
        refine am_iload rfl rfl ?_
        refine am_Vx [.int (nI l), .int (nI v)] rfl rfl rfl rfl rfl rfl (m_heavier (d := _) (l) (v) (by omega) (by omega)) ?_
        refine am_if_eq rfl (fun h40 => ?_) (fun h40 => ?_)
        · refine am_iconst rfl ?_
          refine am_istore rfl ?_
          refine am_iload rfl rfl ?_
          refine am_if_eq rfl (fun _ => ?_) (fun h => absurd (by decide) h)
          refine am_iload_n rfl rfl ?_
          refine am_istore_n rfl ?_
          refine am_iinc rfl rfl ?_
          refine am_goto rfl ?_
          simp only [mt1, ov, bi_0 h40, Bool.false_and, Bool.true_and, Bool.and_self, cond_true, cond_false, nI_succ] at k
          exact k _ trivial
        · refine am_iconst rfl ?_
          refine am_goto rfl ?_
          refine am_istore rfl ?_
          refine am_iload rfl rfl ?_
          refine am_if_eq rfl (fun h => absurd h (by decide)) (fun _ => ?_)
          refine am_iload_n rfl rfl ?_
          refine am_if_lt rfl (fun _ => ?_) (fun h => absurd (by decide) h)
          refine am_iload rfl rfl ?_
          refine am_goto rfl ?_
          refine am_istore_n rfl ?_
          refine am_iinc rfl rfl ?_
          refine am_goto rfl ?_
          simp only [mt1, ov, bi_1 h40, Bool.false_and, Bool.true_and, Bool.and_self, cond_true, cond_false, nI_succ] at k
          exact k _ trivial
      · have hl2 := hl l rfl
        have hx2 := hx (x := x) rfl
        refine am_iload rfl rfl ?_
        refine am_aload_n rfl rfl rfl ?_
        refine am_get rfl rfl rfl ?_
        refine am_icmp_ge rfl (fun h => absurd h (ed_lt N hv)) (fun _ => ?_)
        refine am_iload_n rfl rfl ?_
        refine am_if_lt rfl (fun h => absurd h (nI_pos (n := l) (by omega))) (fun _ => ?_)
        refine am_aload_n rfl rfl rfl ?_
        refine am_iload_n rfl rfl ?_
        refine am_iload rfl rfl ?_
        refine am_Vx [.int (nI l), .int (nI v)] rfl rfl rfl rfl rfl rfl (m_heavier (d := _) (l) (v) (by omega) (by omega)) ?_
        refine am_if_eq rfl (fun h40 => ?_) (fun h40 => ?_)
        · refine am_iconst rfl ?_
          refine am_istore rfl ?_
          refine am_iload rfl rfl ?_
          refine am_if_eq rfl (fun _ => ?_) (fun h => absurd (by decide) h)
          refine am_iload_n rfl rfl ?_
          refine am_istore_n rfl ?_
          refine am_iinc rfl rfl ?_
          refine am_goto rfl ?_
          simp only [mt1, ov, bi_0 h40, Bool.false_and, Bool.true_and, Bool.and_self, cond_true, cond_false, nI_succ] at k
          exact k _ trivial
        · refine am_iconst rfl ?_
          refine am_goto rfl ?_
          refine am_istore rfl ?_
          refine am_iload rfl rfl ?_
          refine am_if_eq rfl (fun h => absurd h (by decide)) (fun _ => ?_)
          refine am_iload_n rfl rfl ?_
          refine am_if_lt rfl (fun h => absurd h (nI_pos (n := x) (by omega))) (fun _ => ?_)
          refine am_aload_n rfl rfl rfl ?_
          refine am_iload rfl rfl ?_
          refine am_iload_n rfl rfl ?_
          refine am_Vx [.int (nI v), .int (nI x)] rfl rfl rfl rfl rfl rfl (m_heavier (d := _) (v) (x) (by omega) (by omega)) ?_
          refine am_if_eq rfl (fun h53 => ?_) (fun h53 => ?_)
          · refine am_iload_n rfl rfl ?_
            refine am_istore_n rfl ?_
            refine am_iinc rfl rfl ?_
            refine am_goto rfl ?_
            simp only [mt1, ov, bi_1 h40, bi_0 h53, Bool.false_and, Bool.true_and, Bool.and_self, cond_true, cond_false, nI_succ] at k
            exact k _ trivial
          · refine am_iload rfl rfl ?_
            refine am_goto rfl ?_
            refine am_istore_n rfl ?_
            refine am_iinc rfl rfl ?_
            refine am_goto rfl ?_
            simp only [mt1, ov, bi_1 h40, bi_1 h53, Bool.false_and, Bool.true_and, Bool.and_self, cond_true, cond_false, nI_succ] at k
            exact k _ trivial
  · refine am_iload rfl rfl ?_
    refine am_aload_n rfl rfl rfl ?_
    refine am_get rfl rfl rfl ?_
    refine am_icmp_ge rfl (fun _ => ?_) (fun h => absurd (ed_ge N) h)
    exact kk z
theorem m_mt2 (N : MN S n q fa fb) {K : am_K} (k0 e a b : Nat) (he : e < q) (ha : a < 12) (hb : b < 12) (y : Option Value × Unit) (z0 : Option Value) (kk : ∀ z, AW g (d + 1) 0 0 118 149 [some (.ref 38), y.1, some (.int (nI k0)), some (.int (nI e)), some (.int (nI a)), some (.int (nI b)), some (.int (itr (mt2 fa fb (S 41) (S 47) e a b) q 0)), some (.int (nI q)), z] [] (mem ch S) K) : AW g (d + 1) 0 0 118 86 [some (.ref 38), y.1, some (.int (nI k0)), some (.int (nI e)), some (.int (nI a)), some (.int (nI b)), some (.int 0), some (.int (nI 0)), z0] [] (mem ch S) K := by
  have hn := N.2.1
  have hq := N.2.2.2.1
  refine am_forS (q) (fun v z => [some (.ref 38), y.1, some (.int (nI k0)), some (.int (nI e)), some (.int (nI a)), some (.int (nI b)), some (.int (itr (mt2 fa fb (S 41) (S 47) e a b) v 0)), some (.int (nI v)), z]) (fun v z => mem ch S) (fun v z => True) (fun v z hv _ k => ?_) (fun z _ => ?_) (q) 0 (z0) (by omega) trivial
  · obtain ⟨e1, e2, l1, l2⟩ := N.2.2.2.2 v hv
    have o1 : oth fa fb v a < 12 := oth_lt l1 l2
    have o2 : oth fa fb v b < 12 := oth_lt l1 l2
    rw [itr_s] at k
    generalize itr (mt2 fa fb (S 41) (S 47) e a b) v 0 = p at k ⊢
    refine am_iload rfl rfl ?_
    refine am_aload_n rfl rfl rfl ?_
    refine am_get rfl rfl rfl ?_
    refine am_icmp_ge rfl (fun h => absurd h (ed_lt N hv)) (fun _ => ?_)
    refine am_aload_n rfl rfl rfl ?_
    refine am_iload rfl rfl ?_
    refine am_iload_n rfl rfl ?_
    refine am_Vx [.int (nI v), .int (nI e)] rfl rfl rfl rfl rfl rfl (m_heavier (d := _) (v) (e) (by omega) (by omega)) ?_
    refine am_if_eq rfl (fun h94 => ?_) (fun h94 => ?_)
    · refine am_iinc rfl rfl ?_
      refine am_goto rfl ?_
      simp only [mt2, bi_0 h94, Bool.false_and, Bool.true_and, Bool.true_or, Bool.false_or, Bool.or_false, Bool.or_true, Bool.and_false, Bool.and_true, Bool.or_self, Bool.and_self, cond_true, cond_false, nI_succ] at k
      exact k _ trivial
    · refine am_aload_n rfl rfl rfl ?_
      refine am_iload rfl rfl ?_
      refine am_iload rfl rfl ?_
      refine am_Vx [.int (nI v), .int (nI a)] rfl rfl rfl rfl rfl rfl (m_isOf (d := _) N v a (by omega) (by omega)) ?_
      refine am_if_ne rfl (fun h99 => ?_) (fun h99 => ?_)
      · refine am_aload_n rfl rfl rfl ?_
        refine am_iload rfl rfl ?_
        refine am_iload rfl rfl ?_
        refine am_Vx [.int (nI v), .int (nI a)] rfl rfl rfl rfl rfl rfl (m_isOf (d := _) N v a (by omega) (by omega)) ?_
        refine am_if_eq rfl (fun h => absurd h (by rw [bi_1 h99]; decide)) (fun _ => ?_)
        refine am_aload_n rfl rfl rfl ?_
        refine am_get rfl rfl rfl ?_
        refine am_iload rfl rfl ?_
        refine am_iald rfl rfl rfl (by omega) (by decide) ?_
        rw [e1]
        refine am_aload_n rfl rfl rfl ?_
        refine am_get rfl rfl rfl ?_
        refine am_iload rfl rfl ?_
        refine am_iald rfl rfl rfl (by omega) (by decide) ?_
        rw [e2]
        refine am_iadd rfl ?_
        refine am_iload rfl rfl ?_
        refine am_isub rfl ?_
        rw [oth_I (bi_1 h99)]
        refine am_goto rfl ?_
        refine am_istore rfl ?_
        refine am_aload_n rfl rfl rfl ?_
        refine am_get rfl rfl rfl ?_
        refine am_iload rfl rfl ?_
        refine am_iald rfl rfl rfl (by omega) (by decide) ?_
        refine am_iload rfl rfl ?_
        refine am_icmp_le rfl (fun h139 => ?_) (fun h139 => ?_)
        · refine am_iload rfl rfl ?_
          refine am_istore rfl ?_
          refine am_iinc rfl rfl ?_
          refine am_goto rfl ?_
          simp only [mt2, bi_1 h94, bi_1 h99, decide_eq_true h139, Bool.false_and, Bool.true_and, Bool.true_or, Bool.false_or, Bool.or_false, Bool.or_true, Bool.and_false, Bool.and_true, Bool.or_self, Bool.and_self, cond_true, cond_false, nI_succ] at k
          exact k _ trivial
        · refine am_aload_n rfl rfl rfl ?_
          refine am_get rfl rfl rfl ?_
          refine am_iload rfl rfl ?_
          refine am_iald rfl rfl rfl (by omega) (by decide) ?_
          refine am_goto rfl ?_
          refine am_istore rfl ?_
          refine am_iinc rfl rfl ?_
          refine am_goto rfl ?_
          simp only [mt2, bi_1 h94, bi_1 h99, decide_eq_false h139, Bool.false_and, Bool.true_and, Bool.true_or, Bool.false_or, Bool.or_false, Bool.or_true, Bool.and_false, Bool.and_true, Bool.or_self, Bool.and_self, cond_true, cond_false, nI_succ] at k
          exact k _ trivial
      · refine am_aload_n rfl rfl rfl ?_
        refine am_iload rfl rfl ?_
        refine am_iload rfl rfl ?_
        refine am_Vx [.int (nI v), .int (nI b)] rfl rfl rfl rfl rfl rfl (m_isOf (d := _) N v b (by omega) (by omega)) ?_
        refine am_if_eq rfl (fun h104 => ?_) (fun h104 => ?_)
        · refine am_iinc rfl rfl ?_
          refine am_goto rfl ?_
          simp only [mt2, bi_1 h94, bi_0 h99, bi_0 h104, Bool.false_and, Bool.true_and, Bool.true_or, Bool.false_or, Bool.or_false, Bool.or_true, Bool.and_false, Bool.and_true, Bool.or_self, Bool.and_self, cond_true, cond_false, nI_succ] at k
          exact k _ trivial
        · refine am_aload_n rfl rfl rfl ?_
          refine am_iload rfl rfl ?_
          refine am_iload rfl rfl ?_
          refine am_Vx [.int (nI v), .int (nI a)] rfl rfl rfl rfl rfl rfl (m_isOf (d := _) N v a (by omega) (by omega)) ?_
          refine am_if_eq rfl (fun _ => ?_) (fun h => absurd (show bi (isf fa fb v a) = 0 by rw [bi_0 h99]; rfl) h)
          refine am_aload_n rfl rfl rfl ?_
          refine am_get rfl rfl rfl ?_
          refine am_iload rfl rfl ?_
          refine am_iald rfl rfl rfl (by omega) (by decide) ?_
          rw [e1]
          refine am_aload_n rfl rfl rfl ?_
          refine am_get rfl rfl rfl ?_
          refine am_iload rfl rfl ?_
          refine am_iald rfl rfl rfl (by omega) (by decide) ?_
          rw [e2]
          refine am_iadd rfl ?_
          refine am_iload rfl rfl ?_
          refine am_isub rfl ?_
          rw [oth_I (bi_1 h104)]
          refine am_istore rfl ?_
          refine am_aload_n rfl rfl rfl ?_
          refine am_get rfl rfl rfl ?_
          refine am_iload rfl rfl ?_
          refine am_iald rfl rfl rfl (by omega) (by decide) ?_
          refine am_iload rfl rfl ?_
          refine am_icmp_le rfl (fun h139 => ?_) (fun h139 => ?_)
          · refine am_iload rfl rfl ?_
            refine am_istore rfl ?_
            refine am_iinc rfl rfl ?_
            refine am_goto rfl ?_
            simp only [mt2, bi_1 h94, bi_0 h99, bi_1 h104, decide_eq_true h139, Bool.false_and, Bool.true_and, Bool.true_or, Bool.false_or, Bool.or_false, Bool.or_true, Bool.and_false, Bool.and_true, Bool.or_self, Bool.and_self, cond_true, cond_false, nI_succ] at k
            exact k _ trivial
          · refine am_aload_n rfl rfl rfl ?_
            refine am_get rfl rfl rfl ?_
            refine am_iload rfl rfl ?_
            refine am_iald rfl rfl rfl (by omega) (by decide) ?_
            refine am_goto rfl ?_
            refine am_istore rfl ?_
            refine am_iinc rfl rfl ?_
            refine am_goto rfl ?_
            simp only [mt2, bi_1 h94, bi_0 h99, bi_1 h104, decide_eq_false h139, Bool.false_and, Bool.true_and, Bool.true_or, Bool.false_or, Bool.or_false, Bool.or_true, Bool.and_false, Bool.and_true, Bool.or_self, Bool.and_self, cond_true, cond_false, nI_succ] at k
            exact k _ trivial
  · refine am_iload rfl rfl ?_
    refine am_aload_n rfl rfl rfl ?_
    refine am_get rfl rfl rfl ?_
    refine am_icmp_ge rfl (fun _ => ?_) (fun h => absurd (ed_ge N) h)
    exact kk z
theorem m_match (N : MN S n q fa fb) (hp : ∀ k, k < q → (itr (mt1 (S 41) (mtc fa fb (S 41) n q k (S 46) (S 47)).1) q none).isSome = true) (hp2 : ∀ k, k < q → ∀ l, (mtc fa fb (S 41) n q k (S 46) (S 47)).1 = some l → l < q) : AW g (d + 1) 0 0 118 0 (am_L0 118 [.ref 38]) [] (mem ch S) (am_is none (mem ch (am_up (am_up S 46 (mtc fa fb (S 41) n q q (S 46) (S 47)).2.1) 47 (mtc fa fb (S 41) n q q (S 46) (S 47)).2.2))) := by
  have hn := N.2.1
  have hqq := N.2.2.2.1
  refine am_iconst rfl ?_
  refine am_istore_n rfl ?_
  refine am_Meq (M' := mem ch (am_up (am_up S 46 (pw 0 (fun _ => -1) (S 46))) 47 (pw 0 (fun _ => 0) (S 47)))) (by rw [pw_0, pw_0]; exact congrArg (mem ch) (by rw [am_up_self]; exact (am_up_self S 47).symm)) ?_
  show AW g _ 0 0 118 2 [some (.ref 38), some (.int (nI 0)), none, none, none, none, none, none, none] [] _ _
  refine am_for (n) (fun v => [some (.ref 38), some (.int (nI v)), none, none, none, none, none, none, none]) (fun v => mem ch (am_up (am_up S 46 (pw v (fun _ => -1) (S 46))) 47 (pw v (fun _ => 0) (S 47)))) (fun v hv k => ?_) ?_ (n) 0 (by omega)
  · refine am_iload_n rfl rfl ?_
    refine am_aload_n rfl rfl rfl ?_
    refine am_get rfl rfl rfl ?_
    refine am_icmp_ge rfl (fun h => absurd h (nm_lt ((N.up (k := 46) (by decide)).up (k := 47) (by decide)).1 hn hv)) (fun _ => ?_)
    refine am_aload_n rfl rfl rfl ?_
    refine am_get rfl rfl rfl ?_
    refine am_iload_n rfl rfl ?_
    refine am_iconst rfl ?_
    refine am_iast rfl rfl rfl (by omega) (by decide) ?_
    refine am_Meq mt46 ?_
    refine am_aload_n rfl rfl rfl ?_
    refine am_get rfl rfl rfl ?_
    refine am_iload_n rfl rfl ?_
    refine am_iconst rfl ?_
    refine am_iast rfl rfl rfl (by omega) (by decide) ?_
    refine am_Meq mt47 ?_
    refine am_iinc rfl rfl ?_
    refine am_goto rfl ?_
    rw [show upd (am_up (am_up S 46 (pw v (fun _ => -1) (S 46))) 47 (pw v (fun _ => 0) (S 47)) 46) v (-1) = pw (v + 1) (fun _ => -1) (S 46) from pw_s v (fun _ => -1) (S 46)]
    rw [show upd (am_up (am_up S 46 (pw (v + 1) (fun _ => -1) (S 46))) 47 (pw v (fun _ => 0) (S 47)) 47) v 0 = pw (v + 1) (fun _ => 0) (S 47) from pw_s v (fun _ => 0) (S 47)]
    simp only [nI_succ] at k
    exact k
  · refine am_iload_n rfl rfl ?_
    refine am_aload_n rfl rfl rfl ?_
    refine am_get rfl rfl rfl ?_
    refine am_icmp_ge rfl (fun _ => ?_) (fun h => absurd (nm_ge ((N.up (k := 46) (by decide)).up (k := 47) (by decide)).1 hn) h)
    refine am_iconst rfl ?_
    refine am_istore_n rfl ?_
    refine am_iconst rfl ?_
    refine am_istore_n rfl ?_
    show AW g _ 0 0 118 22 [some (.ref 38), some (.int (em (mtc fa fb (S 41) n q 0 (S 46) (S 47)).1)), some (.int (nI 0)), none, none, none, none, none, none] [] (mem ch (am_up (am_up S 46 (mtc fa fb (S 41) n q 0 (S 46) (S 47)).2.1) 47 (mtc fa fb (S 41) n q 0 (S 46) (S 47)).2.2)) _
    refine am_forS (q) (fun v s => [some (.ref 38), some (.int (em (mtc fa fb (S 41) n q v (S 46) (S 47)).1)), some (.int (nI v)), s.1, s.2.1, s.2.2.1, s.2.2.2.1, s.2.2.2.2.1, s.2.2.2.2.2]) (fun v s => mem ch (am_up (am_up S 46 (mtc fa fb (S 41) n q v (S 46) (S 47)).2.1) 47 (mtc fa fb (S 41) n q v (S 46) (S 47)).2.2)) (fun v s => True) (fun v s hv _ k => ?_) (fun s _ => ?_) (q) 0 ((none, none, none, none, none, none)) (by omega) trivial
    · have hq1 := hp v hv
      have hq2 := hp2 v hv
      unfold mtc at k hq1 hq2 ⊢
      rw [itr_s] at k
      generalize itr (fun _ => mtS fa fb (S 41) q) v (none, mch0 n (S 46) (S 47)) = s1 at k hq1 hq2 ⊢
      refine am_iload_n rfl rfl ?_
      refine am_aload_n rfl rfl rfl ?_
      refine am_get rfl rfl rfl ?_
      refine am_icmp_ge rfl (fun h => absurd h (ed_lt (((N.up (k := 46) (by decide)).up (k := 47) (by decide))) hv)) (fun _ => ?_)
      refine am_iconst rfl ?_
      refine am_istore_n rfl ?_
      refine am_iconst rfl ?_
      refine am_istore rfl ?_
      refine m_mt1 (d := d) (((N.up (k := 46) (by decide)).up (k := 47) (by decide))) v s1.1 hq2 s.2.2.1 (s.2.2.2.1, s.2.2.2.2.1, s.2.2.2.2.2) (fun z => ?_)
      obtain ⟨e, he0⟩ := Option.isSome_iff_exists.mp hq1
      have he : e < q := mt1_lt he0
      obtain ⟨e1, e2, l1, l2⟩ := N.2.2.2.2 e he
      rw [show mtS fa fb (S 41) q s1 = (some e, mtU fa fb (S 41) q s1.2 e) by unfold mtS; rw [he0]] at k
      show AW g _ 0 0 118 60 [some (.ref 38), some (.int (em s1.1)), some (.int (nI v)), some (.int (em (itr (mt1 (S 41) s1.1) q none))), some (.int (nI q)), z, s.2.2.2.1, s.2.2.2.2.1, s.2.2.2.2.2] [] (mem ch (am_up (am_up S 46 s1.2.1) 47 s1.2.2)) _
      rw [he0]
      refine am_iload_n rfl rfl ?_
      refine am_istore_n rfl ?_
      refine am_aload_n rfl rfl rfl ?_
      refine am_get rfl rfl rfl ?_
      refine am_iload_n rfl rfl ?_
      refine am_iald rfl rfl rfl (by omega) (by decide) ?_
      rw [show am_up (am_up S 46 s1.2.1) 47 s1.2.2 39 e = nI (fa e) from e1]
      refine am_istore rfl ?_
      refine am_aload_n rfl rfl rfl ?_
      refine am_get rfl rfl rfl ?_
      refine am_iload_n rfl rfl ?_
      refine am_iald rfl rfl rfl (by omega) (by decide) ?_
      rw [show am_up (am_up S 46 s1.2.1) 47 s1.2.2 40 e = nI (fb e) from e2]
      refine am_istore rfl ?_
      refine am_aload_n rfl rfl rfl ?_
      refine am_get rfl rfl rfl ?_
      refine am_iload rfl rfl ?_
      refine am_iald rfl rfl rfl (by omega) (by decide) ?_
      refine am_if_ge rfl (fun h76 => ?_) (fun h76 => ?_)
      · refine am_iinc rfl rfl ?_
        refine am_goto rfl ?_
        simp only [mtU, decide_eq_true (show 0 ≤ s1.2.1 (fa e) from h76), Bool.not_true, Bool.not_false, Bool.false_and, Bool.and_false, Bool.and_self, cond_true, cond_false, nI_succ] at k
        exact k (_, _, _, _, _, _) trivial
      · refine am_aload_n rfl rfl rfl ?_
        refine am_get rfl rfl rfl ?_
        refine am_iload rfl rfl ?_
        refine am_iald rfl rfl rfl (by omega) (by decide) ?_
        refine am_if_ge rfl (fun h81 => ?_) (fun h81 => ?_)
        · refine am_iinc rfl rfl ?_
          refine am_goto rfl ?_
          simp only [mtU, decide_eq_false (show ¬ 0 ≤ s1.2.1 (fa e) from h76), decide_eq_true (show 0 ≤ s1.2.1 (fb e) from h81), Bool.not_true, Bool.not_false, Bool.false_and, Bool.and_false, Bool.and_self, cond_true, cond_false, nI_succ] at k
          exact k (_, _, _, _, _, _) trivial
        · refine am_iconst rfl ?_
          refine am_istore rfl ?_
          refine am_iconst rfl ?_
          refine am_istore rfl ?_
          refine m_mt2 (d := d) (((N.up (k := 46) (by decide)).up (k := 47) (by decide))) v e (fa e) (fb e) he l1 l2 (some (.int (nI e)), ()) s.2.2.2.2.2 (fun z => ?_)
          refine am_aload_n rfl rfl rfl ?_
          refine am_get rfl rfl rfl ?_
          refine am_iload rfl rfl ?_
          refine am_iload rfl rfl ?_
          refine am_iast rfl rfl rfl (by omega) (by decide) ?_
          refine am_Meq mt46 ?_
          refine am_aload_n rfl rfl rfl ?_
          refine am_get rfl rfl rfl ?_
          refine am_iload rfl rfl ?_
          refine am_iload rfl rfl ?_
          refine am_iast rfl rfl rfl (by omega) (by decide) ?_
          refine am_Meq mt46 ?_
          refine am_aload_n rfl rfl rfl ?_
          refine am_get rfl rfl rfl ?_
          refine am_iload rfl rfl ?_
          refine am_iload rfl rfl ?_
          refine am_iconst rfl ?_
          refine am_iadd rfl ?_
          refine am_iast rfl rfl rfl (by omega) (by decide) ?_
          refine am_Meq mt47 ?_
          refine am_aload_n rfl rfl rfl ?_
          refine am_get rfl rfl rfl ?_
          refine am_iload rfl rfl ?_
          refine am_iload rfl rfl ?_
          refine am_iconst rfl ?_
          refine am_iadd rfl ?_
          refine am_iast rfl rfl rfl (by omega) (by decide) ?_
          refine am_Meq mt47 ?_
          refine am_iinc rfl rfl ?_
          refine am_goto rfl ?_
          simp only [mtU, decide_eq_false (show ¬ 0 ≤ s1.2.1 (fa e) from h76), decide_eq_false (show ¬ 0 ≤ s1.2.1 (fb e) from h81), Bool.not_false, Bool.and_self, cond_true, nI_succ] at k
          exact k (_, _, _, _, _, _) trivial
    · refine am_iload_n rfl rfl ?_
      refine am_aload_n rfl rfl rfl ?_
      refine am_get rfl rfl rfl ?_
      refine am_icmp_ge rfl (fun _ => ?_) (fun h => absurd (ed_ge (((N.up (k := 46) (by decide)).up (k := 47) (by decide)))) h)
      exact am_return rfl ⟨rfl, rfl⟩
end MM6
