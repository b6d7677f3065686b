/-! the model: plant, isUnder, sumUnder, heldSums -/
theorem mt44 {ch : Option Nat} {S : am_S0} {f h f2 : Nat → Int32} : (mem ch (am_up (am_up S 44 f) 45 h)).set 44 (.inl (0, 12, .inl f2)) = mem ch (am_up (am_up S 44 f2) 45 h) := by
  show mem ch (am_up (am_up (am_up S 44 f) 45 h) 44 f2) = _
  rw [am_up_comm _ h f2 (by decide), am_up_up]
theorem mt45 {ch : Option Nat} {S : am_S0} {f h f2 : Nat → Int32} : (mem ch (am_up (am_up S 44 f) 45 h)).set 45 (.inl (0, 12, .inl f2)) = mem ch (am_up (am_up S 44 f) 45 f2) := ms45
def mpr (fa fb : Nat → Nat) (q n : Nat) (f : Nat → Int32) (rt v : Nat) : Option Nat := bif decide (v = rt) then none else mnr fa fb q n f v rt
def clb (pr : Nat → Option Nat) : Nat → Nat → Nat → (Nat → Int32) → (Nat → Int32)
  | 0, _, _, f => f
  | fuel + 1, v, h, f => match pr v with
    | none => upd f v (bif decide (nI h ≤ f v) then f v else nI h)
    | some u => clb pr fuel u (h + 1) (upd f v (bif decide (nI h ≤ f v) then f v else nI h))
def hts (pr : Nat → Option Nat) (n k : Nat) (f : Nat → Int32) : Nat → Int32 := itr (fun v => clb pr 13 v 0) k (pw n (fun _ => 0) f)
/-- a tree: each parent is a node and of lower rank -/
def Rk (pr : Nat → Option Nat) (n : Nat) (rk : Nat → Nat) : Prop := (∀ v, v < n → rk v < 12) ∧ ∀ v u, v < n → pr v = some u → u < n ∧ rk u < rk v
def und (pr : Nat → Option Nat) : Nat → Nat → Nat → Bool
  | 0, _, _ => false
  | fuel + 1, v, a => decide (v = a) || (match pr v with | none => false | some u => und pr fuel u a)
def smI (f : Nat → Int32) : Nat → Int32
  | 0 => 0
  | n + 1 => smI f n + f n
section MM7
variable {g : am_G} {d : Nat} {ch : Option Nat} {S : am_S0} {n q : Nat} {fa fb : Nat → Nat}
variable {pr : Nat → Option Nat} {rk : Nat → Nat}
theorem m_clb (R : Rk pr n rk) (hP : ∀ v, v < n → S 44 v = em (pr v)) (hn : n ≤ 12) {K : am_K} (k0 : Nat) : ∀ fuel v h f, v < n → rk v < fuel → (∀ z, AW g d 0 0 114 63 [some (.ref 38), some (.int (nI k0)), some (.int (-1)), z] [] (mem ch (am_up S 45 (clb pr fuel v h f))) K) → AW g d 0 0 114 38 [some (.ref 38), some (.int (nI k0)), some (.int (nI v)), some (.int (nI h))] [] (mem ch (am_up S 45 f)) K
  | 0, v, h, f, hv, hf, kk => absurd hf (Nat.not_lt_zero _)
  | fuel + 1, v, h, f, hv, hf, kk => by
    have ih := m_clb (K := K) R hP hn k0 fuel
    refine am_iload_n rfl rfl ?_
    refine am_if_lt rfl (fun h9 => absurd h9 (nI_pos (by omega))) (fun _ => ?_)
    refine am_aload_n rfl rfl rfl ?_
    refine am_get rfl rfl rfl ?_
    refine am_iload_n rfl rfl ?_
    refine am_aload_n rfl rfl rfl ?_
    refine am_get rfl rfl rfl ?_
    refine am_iload_n rfl rfl ?_
    refine am_iald rfl rfl rfl (by omega) (by decide) ?_
    refine am_iload_n rfl rfl ?_
    refine am_icmp_ge rfl (fun h48 => ?_) (fun h48 => ?_)
    · refine am_aload_n rfl rfl rfl ?_
      refine am_get rfl rfl rfl ?_
      refine am_iload_n rfl rfl ?_
      refine am_iald rfl rfl rfl (by omega) (by decide) ?_
      refine am_iast rfl rfl rfl (by omega) (by decide) ?_
      refine am_Meq ms45 ?_
      refine am_aload_n rfl rfl rfl ?_
      refine am_get rfl rfl rfl ?_
      refine am_iload_n rfl rfl ?_
      refine am_iald rfl rfl rfl (by omega) (by decide) ?_
      rw [show am_up S 45 _ 44 v = em (pr v) from hP v hv]
      rcases e : pr v with _ | u
      · refine am_istore_n rfl ?_
        refine am_iinc rfl rfl ?_
        refine am_goto rfl ?_
        refine am_iload_n rfl rfl ?_
        refine am_if_lt rfl (fun _ => ?_) (fun h => absurd (by decide) h)
        simp only [clb, e, decide_eq_true (show nI h ≤ f v from h48), cond_true, cond_false] at kk
        exact kk _
      · obtain ⟨hu, hr⟩ := R.2 v u hv e
        refine am_istore_n rfl ?_
        refine am_iinc rfl rfl ?_
        refine am_goto rfl ?_
        show AW g d 0 0 114 38 [some (.ref 38), some (.int (nI k0)), some (.int (nI u)), some (.int (nI h + 1))] [] _ K
        rw [nI_1]
        simp only [clb, e, decide_eq_true (show nI h ≤ f v from h48), cond_true, cond_false] at kk
        exact ih u (h + 1) _ hu (by omega) kk
    · refine am_iload_n rfl rfl ?_
      refine am_goto rfl ?_
      refine am_iast rfl rfl rfl (by omega) (by decide) ?_
      refine am_Meq ms45 ?_
      refine am_aload_n rfl rfl rfl ?_
      refine am_get rfl rfl rfl ?_
      refine am_iload_n rfl rfl ?_
      refine am_iald rfl rfl rfl (by omega) (by decide) ?_
      rw [show am_up S 45 _ 44 v = em (pr v) from hP v hv]
      rcases e : pr v with _ | u
      · refine am_istore_n rfl ?_
        refine am_iinc rfl rfl ?_
        refine am_goto rfl ?_
        refine am_iload_n rfl rfl ?_
        refine am_if_lt rfl (fun _ => ?_) (fun h => absurd (by decide) h)
        simp only [clb, e, decide_eq_false (show ¬ nI h ≤ f v from h48), cond_true, cond_false] at kk
        exact kk _
      · obtain ⟨hu, hr⟩ := R.2 v u hv e
        refine am_istore_n rfl ?_
        refine am_iinc rfl rfl ?_
        refine am_goto rfl ?_
        show AW g d 0 0 114 38 [some (.ref 38), some (.int (nI k0)), some (.int (nI u)), some (.int (nI h + 1))] [] _ K
        rw [nI_1]
        simp only [clb, e, decide_eq_false (show ¬ nI h ≤ f v from h48), cond_true, cond_false] at kk
        exact ih u (h + 1) _ hu (by omega) kk
theorem m_plant (N : MN S n q fa fb) (rt : Nat) (hrt : rt < n) (hr : S 38 9 = nI rt) (R : Rk (mpr fa fb q n (S 43) rt) n rk) : AW g (d + 3) 0 0 114 0 (am_L0 114 [.ref 38]) [] (mem ch S) (am_is none (mem ch (am_up (am_up S 44 (pw n (fun v => em (mpr fa fb q n (S 43) rt v)) (S 44))) 45 (hts (mpr fa fb q n (S 43) rt) n n (S 45))))) := by
  have hn := N.2.1
  refine am_iconst rfl ?_
  refine am_istore_n rfl ?_
  refine am_Meq (M' := mem ch (am_up (am_up S 44 (pw 0 (fun v => em (mpr fa fb q n (S 43) rt v)) (S 44))) 45 (pw 0 (fun _ => 0) (S 45)))) (by rw [pw_0, pw_0]; exact congrArg (mem ch) (by rw [am_up_self]; exact (am_up_self S 45).symm)) ?_
  show AW g _ 0 0 114 2 [some (.ref 38), some (.int (nI 0)), none, none] [] _ _
  refine am_for (n) (fun v => [some (.ref 38), some (.int (nI v)), none, none]) (fun v => mem ch (am_up (am_up S 44 (pw v (fun v => em (mpr fa fb q n (S 43) rt v)) (S 44))) 45 (pw v (fun _ => 0) (S 45)))) (fun v hv k => ?_) ?_ (n) 0 (by omega)
  · refine am_iload_n rfl rfl ?_
    refine am_aload_n rfl rfl rfl ?_
    refine am_get rfl rfl rfl ?_
    refine am_icmp_ge rfl (fun h => absurd h (nm_lt (((N.up (k := 44) (by decide)).up (k := 45) (by decide))).1 hn hv)) (fun _ => ?_)
    refine am_aload_n rfl rfl rfl ?_
    refine am_get rfl rfl rfl ?_
    refine am_iload_n rfl rfl ?_
    refine am_iload_n rfl rfl ?_
    refine am_aload_n rfl rfl rfl ?_
    refine am_get rfl rfl rfl ?_
    rw [show (am_up (am_up S 44 (pw v (fun v => em (mpr fa fb q n (S 43) rt v)) (S 44))) 45 (pw v (fun _ => 0) (S 45))) 38 9 = nI rt from hr]
    refine am_icmp_ne rfl (fun h12 => ?_) (fun h12 => ?_)
    · rw [nI_eq (by omega) (by omega)] at h12
      refine am_aload_n rfl rfl rfl ?_
      refine am_iload_n rfl rfl ?_
      refine am_aload_n rfl rfl rfl ?_
      refine am_get rfl rfl rfl ?_
      rw [show (am_up (am_up S 44 (pw v (fun v => em (mpr fa fb q n (S 43) rt v)) (S 44))) 45 (pw v (fun _ => 0) (S 45))) 38 9 = nI rt from hr]
      refine am_Vx [.int (nI v), .int (nI rt)] rfl rfl rfl rfl rfl rfl (m_nearer (d := d) (((N.up (k := 44) (by decide)).up (k := 45) (by decide))) v rt (by omega) (by omega)) ?_
      refine am_iast rfl rfl rfl (by omega) (by decide) ?_
      refine am_Meq mt44 ?_
      refine am_aload_n rfl rfl rfl ?_
      refine am_get rfl rfl rfl ?_
      refine am_iload_n rfl rfl ?_
      refine am_iconst rfl ?_
      refine am_iast rfl rfl rfl (by omega) (by decide) ?_
      refine am_Meq mt45 ?_
      refine am_iinc rfl rfl ?_
      refine am_goto rfl ?_
      refine am_Meq (M' := mem ch (am_up (am_up S 44 (pw (v + 1) (fun v => em (mpr fa fb q n (S 43) rt v)) (S 44))) 45 (pw (v + 1) (fun _ => 0) (S 45)))) ?_ ?_
      · rw [← pw_s, ← pw_s v (fun _ => 0) (S 45)]
        show mem ch (am_up (am_up S 44 (upd (pw v (fun v => em (mpr fa fb q n (S 43) rt v)) (S 44)) v (em (mnr fa fb q n (S 43) v rt)))) 45 (upd (pw v (fun _ => 0) (S 45)) v 0)) = mem ch (am_up (am_up S 44 (upd (pw v (fun v => em (mpr fa fb q n (S 43) rt v)) (S 44)) v (em (mpr fa fb q n (S 43) rt v)))) 45 (upd (pw v (fun _ => 0) (S 45)) v 0))
        simp only [mpr, decide_eq_false h12, cond_true, cond_false, em]
      simp only [nI_succ] at k
      exact k
    · rw [nI_eq (by omega) (by omega)] at h12
      refine am_iconst rfl ?_
      refine am_goto rfl ?_
      refine am_iast rfl rfl rfl (by omega) (by decide) ?_
      refine am_Meq mt44 ?_
      refine am_aload_n rfl rfl rfl ?_
      refine am_get rfl rfl rfl ?_
      refine am_iload_n rfl rfl ?_
      refine am_iconst rfl ?_
      refine am_iast rfl rfl rfl (by omega) (by decide) ?_
      refine am_Meq mt45 ?_
      refine am_iinc rfl rfl ?_
      refine am_goto rfl ?_
      refine am_Meq (M' := mem ch (am_up (am_up S 44 (pw (v + 1) (fun v => em (mpr fa fb q n (S 43) rt v)) (S 44))) 45 (pw (v + 1) (fun _ => 0) (S 45)))) ?_ ?_
      · rw [← pw_s, ← pw_s v (fun _ => 0) (S 45)]
        show mem ch (am_up (am_up S 44 (upd (pw v (fun v => em (mpr fa fb q n (S 43) rt v)) (S 44)) v (-1))) 45 (upd (pw v (fun _ => 0) (S 45)) v 0)) = mem ch (am_up (am_up S 44 (upd (pw v (fun v => em (mpr fa fb q n (S 43) rt v)) (S 44)) v (em (mpr fa fb q n (S 43) rt v)))) 45 (upd (pw v (fun _ => 0) (S 45)) v 0))
        simp only [mpr, decide_eq_true h12, cond_true, cond_false, em]
      simp only [nI_succ] at k
      exact k
  · refine am_iload_n rfl rfl ?_
    refine am_aload_n rfl rfl rfl ?_
    refine am_get rfl rfl rfl ?_
    refine am_icmp_ge rfl (fun _ => ?_) (fun h => absurd (nm_ge (((N.up (k := 44) (by decide)).up (k := 45) (by decide))).1 hn) h)
    refine am_iconst rfl ?_
    refine am_istore_n rfl ?_
    show AW g _ 0 0 114 30 [some (.ref 38), some (.int (nI 0)), none, none] [] (mem ch (am_up (am_up S 44 (pw n (fun v => em (mpr fa fb q n (S 43) rt v)) (S 44))) 45 (hts (mpr fa fb q n (S 43) rt) n 0 (S 45)))) _
    refine am_forS (n) (fun v s => [some (.ref 38), some (.int (nI v)), s.1, s.2]) (fun v s => mem ch (am_up (am_up S 44 (pw n (fun v => em (mpr fa fb q n (S 43) rt v)) (S 44))) 45 (hts (mpr fa fb q n (S 43) rt) n v (S 45)))) (fun v s => True) (fun v s hv _ k => ?_) (fun s _ => ?_) (n) 0 ((none, none)) (by omega) trivial
    · unfold hts at k ⊢
      rw [itr_s] at k
      generalize itr (fun v => clb (mpr fa fb q n (S 43) rt) 13 v 0) v (pw n (fun _ => 0) (S 45)) = F at k ⊢
      refine am_iload_n rfl rfl ?_
      refine am_aload_n rfl rfl rfl ?_
      refine am_get rfl rfl rfl ?_
      refine am_icmp_ge rfl (fun h => absurd h (nm_lt (((N.up (k := 44) (by decide)).up (k := 45) (by decide))).1 hn hv)) (fun _ => ?_)
      refine am_iload_n rfl rfl ?_
      refine am_istore_n rfl ?_
      refine am_iconst rfl ?_
      refine am_istore_n rfl ?_
      show AW g _ 0 0 114 38 [some (.ref 38), some (.int (nI v)), some (.int (nI v)), some (.int (nI 0))] [] _ _
      refine m_clb (S := am_up S 44 (pw n (fun v => em (mpr fa fb q n (S 43) rt v)) (S 44))) R (fun u hu => show pw n (fun v => em (mpr fa fb q n (S 43) rt v)) (S 44) u = em (mpr fa fb q n (S 43) rt u) from pw_lt hu) hn v 13 v 0 _ hv (by have := R.1 v hv; omega) (fun z => ?_)
      refine am_iinc rfl rfl ?_
      refine am_goto rfl ?_
      simp only [nI_succ] at k
      exact k (_, _) trivial
    · refine am_iload_n rfl rfl ?_
      refine am_aload_n rfl rfl rfl ?_
      refine am_get rfl rfl rfl ?_
      refine am_icmp_ge rfl (fun _ => ?_) (fun h => absurd (nm_ge (((N.up (k := 44) (by decide)).up (k := 45) (by decide))).1 hn) h)
      exact am_return rfl ⟨rfl, rfl⟩
theorem m_und (R : Rk pr n rk) (hP : ∀ v, v < n → S 44 v = em (pr v)) (hn : n ≤ 12) (a : Nat) (ha : a < 12) (y : Option Value) : ∀ fuel v, v < n → rk v < fuel → AW g d 0 0 143 2 [some (.ref 38), y, some (.int (nI a)), some (.int (nI v))] [] (mem ch S) (am_is (some (.int (bi (und pr fuel v a)))) (mem ch S))
  | 0, v, hv, hf => absurd hf (Nat.not_lt_zero _)
  | fuel + 1, v, hv, hf => by
    have ih := m_und R hP hn a ha y fuel
    refine am_iload_n rfl rfl ?_
    refine am_if_lt rfl (fun h9 => absurd h9 (nI_pos (by omega))) (fun _ => ?_)
    refine am_iload_n rfl rfl ?_
    refine am_iload_n rfl rfl ?_
    refine am_icmp_eq rfl (fun h6 => ?_) (fun h6 => ?_)
    · refine am_iload_n rfl rfl ?_
      refine am_iload_n rfl rfl ?_
      refine am_icmp_ne rfl (fun h => absurd h6 h) (fun _ => ?_)
      refine am_iconst rfl ?_
      refine am_goto rfl ?_
      refine am_ireturn rfl (fun _ => by decide) ⟨?_, rfl⟩
      rw [nI_eq (by omega) (by omega)] at h6
      simp only [und, decide_eq_true h6, Bool.true_or, bi, cond_true]
    · refine am_aload_n rfl rfl rfl ?_
      refine am_get rfl rfl rfl ?_
      refine am_iload_n rfl rfl ?_
      refine am_iald rfl rfl rfl (by omega) (by decide) ?_
      rw [hP v hv]
      rw [nI_eq (by omega) (by omega)] at h6
      rcases e : pr v with _ | u
      · refine am_istore_n rfl ?_
        refine am_goto rfl ?_
        refine am_iload_n rfl rfl ?_
        refine am_if_lt rfl (fun _ => ?_) (fun h => absurd (by decide) h)
        refine am_iload_n rfl rfl ?_
        refine am_iload_n rfl rfl ?_
        refine am_icmp_ne rfl (fun _ => ?_) (fun h => absurd h (neg1_nI a (by omega)))
        refine am_iconst rfl ?_
        refine am_ireturn rfl (fun _ => by decide) ⟨?_, rfl⟩
        simp only [und, decide_eq_false h6, e, Bool.or_self, bi, cond_false]
      · obtain ⟨hu, hr⟩ := R.2 v u hv e
        refine am_istore_n rfl ?_
        refine am_goto rfl ?_
        have k := ih u hu (by omega)
        simp only [und, decide_eq_false h6, e, Bool.false_or]
        exact k
theorem m_isUnder (R : Rk pr n rk) (hP : ∀ v, v < n → S 44 v = em (pr v)) (hn : n ≤ 12) (v a : Nat) (hv : v < n) (ha : a < 12) : AW g d 0 0 143 0 (am_L0 143 [.ref 38, .int (nI v), .int (nI a)]) [] (mem ch S) (am_is (some (.int (bi (und pr 13 v a)))) (mem ch S)) := by
  refine am_iload_n rfl rfl ?_
  refine am_istore_n rfl ?_
  exact m_und R hP hn a ha _ 13 v hv (by have := R.1 v hv; omega)
def sUn (pr : Nat → Option Nat) (ids : Nat → Int32) (n a : Nat) : Int32 := smI (fun v => bif und pr 13 v a then ids v else 0) n
theorem m_sumUnder (N : MN S n q fa fb) (R : Rk pr n rk) (hP : ∀ v, v < n → S 44 v = em (pr v)) (x : Nat) (hx : x < 12) : AW g (d + 1) 0 0 142 0 (am_L0 142 [.ref 38, .int (nI x)]) [] (mem ch S) (am_is (some (.int (sUn pr (S 42) n x))) (mem ch S)) := by
  have hn := N.2.1
  unfold sUn
  refine am_iconst rfl ?_
  refine am_istore_n rfl ?_
  refine am_iconst rfl ?_
  refine am_istore_n rfl ?_
  refine am_for (n) (fun v => [some (.ref 38), some (.int (nI x)), some (.int (smI (fun u => bif und pr 13 u x then S 42 u else 0) v)), some (.int (nI v))]) (fun v => mem ch S) (fun v hv k => ?_) ?_ (n) 0 (by omega)
  · refine am_iload_n rfl rfl ?_
    refine am_aload_n rfl rfl rfl ?_
    refine am_get rfl rfl rfl ?_
    refine am_icmp_ge rfl (fun h => absurd h (nm_lt N.1 hn hv)) (fun _ => ?_)
    refine am_iload_n rfl rfl ?_
    refine am_aload_n rfl rfl rfl ?_
    refine am_iload_n rfl rfl ?_
    refine am_iload_n rfl rfl ?_
    refine am_Vx [.int (nI v), .int (nI x)] rfl rfl rfl rfl rfl rfl (m_isUnder (d := _) R hP hn (v) (x) hv (by omega)) ?_
    refine am_if_eq rfl (fun h13 => ?_) (fun h13 => ?_)
    · refine am_iconst rfl ?_
      refine am_iadd rfl ?_
      refine am_istore_n rfl ?_
      refine am_iinc rfl rfl ?_
      refine am_goto rfl ?_
      simp only [smI, bi_0 h13, cond_true, cond_false, nI_succ] at k
      exact k
    · refine am_aload_n rfl rfl rfl ?_
      refine am_get rfl rfl rfl ?_
      refine am_iload_n rfl rfl ?_
      refine am_iald rfl rfl rfl (by omega) (by decide) ?_
      refine am_goto rfl ?_
      refine am_iadd rfl ?_
      refine am_istore_n rfl ?_
      refine am_iinc rfl rfl ?_
      refine am_goto rfl ?_
      simp only [smI, bi_1 h13, cond_true, cond_false, nI_succ] at k
      exact k
  · refine am_iload_n rfl rfl ?_
    refine am_aload_n rfl rfl rfl ?_
    refine am_get rfl rfl rfl ?_
    refine am_icmp_ge rfl (fun _ => ?_) (fun h => absurd (nm_ge N.1 hn) h)
    refine am_iload_n rfl rfl ?_
    refine am_ireturn rfl (fun h => absurd h (by decide)) ⟨?_, rfl⟩
    rfl
def hs1 (pr : Nat → Option Nat) (ids ht : Nat → Int32) (n : Nat) (v : Nat) (r : Int32) (c : Nat) (p : Int32 × Int32) : Int32 × Int32 := bif decide (em (pr c) = nI v) then (bif decide (r < ht c + 1) then (p.1 + 0, p.2 + 1) else (p.1 + sUn pr ids n c, p.2 + 0)) else p
def hsm (pr : Nat → Option Nat) (ids ht : Nat → Int32) (n : Nat) (v s : Nat) (r : Int32) : Int32 := match s with
  | 0 => (itr (hs1 pr ids ht n v r) n (ids v, 0)).1
  | 1 => (itr (hs1 pr ids ht n v r) n (ids v, 0)).2
  | _ => bif decide (r ≤ ht v) then 0 else 1
theorem m_heldSums (N : MN S n q fa fb) (R : Rk pr n rk) (hP : ∀ v, v < n → S 44 v = em (pr v)) (x s : Nat) (r : Int32) (hx : x < 12) (hs : s < 3) : AW g (d + 2) 0 0 141 0 (am_L0 141 [.ref 38, .int (nI x), .int (nI s), .int (r)]) [] (mem ch S) (am_is (some (.int (hsm pr (S 42) (S 45) n x s r))) (mem ch S)) := by
  have hn := N.2.1
  refine am_aload_n rfl rfl rfl ?_
  refine am_get rfl rfl rfl ?_
  refine am_iload_n rfl rfl ?_
  refine am_iald rfl rfl rfl (by omega) (by decide) ?_
  refine am_istore rfl ?_
  refine am_iconst rfl ?_
  refine am_istore rfl ?_
  refine am_iconst rfl ?_
  refine am_istore rfl ?_
  refine am_Leq (L' := [some (.ref 38), some (.int (nI x)), some (.int (nI s)), some (.int r), some (.int (itr (hs1 pr (S 42) (S 45) n x r) 0 (S 42 x, 0)).1), some (.int (itr (hs1 pr (S 42) (S 45) n x r) 0 (S 42 x, 0)).2), some (.int (nI 0)), none]) rfl ?_
  refine am_forS (n) (fun v z => [some (.ref 38), some (.int (nI x)), some (.int (nI s)), some (.int (r)), some (.int ((itr (hs1 pr (S 42) (S 45) n x r) v (S 42 x, 0)).1)), some (.int ((itr (hs1 pr (S 42) (S 45) n x r) v (S 42 x, 0)).2)), some (.int (nI v)), z]) (fun v z => mem ch S) (fun v z => True) (fun v z hv _ k => ?_) (fun z _ => ?_) (n) 0 (none) (by omega) trivial
  · rw [itr_s] at k
    generalize itr (hs1 pr (S 42) (S 45) n x r) v (S 42 x, 0) = p at k ⊢
    refine am_iload rfl rfl ?_
    refine am_aload_n rfl rfl rfl ?_
    refine am_get rfl rfl rfl ?_
    refine am_icmp_ge rfl (fun h => absurd h (nm_lt N.1 hn hv)) (fun _ => ?_)
    refine am_aload_n rfl rfl rfl ?_
    refine am_get rfl rfl rfl ?_
    refine am_iload rfl rfl ?_
    refine am_iald rfl rfl rfl (by omega) (by decide) ?_
    rw [hP v hv]
    refine am_iload_n rfl rfl ?_
    refine am_icmp_ne rfl (fun h18 => ?_) (fun h18 => ?_)
    · refine am_iinc rfl rfl ?_
      refine am_goto rfl ?_
      simp only [hs1, decide_eq_false h18, cond_true, cond_false, nI_succ] at k
      exact k _ trivial
    · refine am_aload_n rfl rfl rfl ?_
      refine am_get rfl rfl rfl ?_
      refine am_iload rfl rfl ?_
      refine am_iald rfl rfl rfl (by omega) (by decide) ?_
      refine am_iconst rfl ?_
      refine am_iadd rfl ?_
      refine am_iload_n rfl rfl ?_
      refine am_icmp_gt rfl (fun h26 => ?_) (fun h26 => ?_)
      · refine am_iconst rfl ?_
        refine am_istore rfl ?_
        refine am_iload rfl rfl ?_
        refine am_iload rfl rfl ?_
        refine am_if_eq rfl (fun _ => ?_) (fun h => absurd (by decide) h)
        refine am_iconst rfl ?_
        refine am_iadd rfl ?_
        refine am_istore rfl ?_
        refine am_iload rfl rfl ?_
        refine am_iload rfl rfl ?_
        refine am_if_eq rfl (fun _ => ?_) (fun h => absurd (by decide) h)
        refine am_iconst rfl ?_
        refine am_iadd rfl ?_
        refine am_istore rfl ?_
        refine am_iinc rfl rfl ?_
        refine am_goto rfl ?_
        simp only [hs1, decide_eq_true h18, decide_eq_true h26, cond_true, cond_false, nI_succ] at k
        exact k _ trivial
      · refine am_iconst rfl ?_
        refine am_goto rfl ?_
        refine am_istore rfl ?_
        refine am_iload rfl rfl ?_
        refine am_iload rfl rfl ?_
        refine am_if_eq rfl (fun h => absurd h (by decide)) (fun _ => ?_)
        refine am_aload_n rfl rfl rfl ?_
        refine am_iload rfl rfl ?_
        refine am_Vx [.int (nI v)] rfl rfl rfl rfl rfl rfl (m_sumUnder (d := _) N R hP (v) (by omega)) ?_
        refine am_goto rfl ?_
        refine am_iadd rfl ?_
        refine am_istore rfl ?_
        refine am_iload rfl rfl ?_
        refine am_iload rfl rfl ?_
        refine am_if_eq rfl (fun h => absurd h (by decide)) (fun _ => ?_)
        refine am_iconst rfl ?_
        refine am_goto rfl ?_
        refine am_iadd rfl ?_
        refine am_istore rfl ?_
        refine am_iinc rfl rfl ?_
        refine am_goto rfl ?_
        simp only [hs1, decide_eq_true h18, decide_eq_false h26, cond_true, cond_false, nI_succ] at k
        exact k _ trivial
  · refine am_iload rfl rfl ?_
    refine am_aload_n rfl rfl rfl ?_
    refine am_get rfl rfl rfl ?_
    refine am_icmp_ge rfl (fun _ => ?_) (fun h => absurd (nm_ge N.1 hn) h)
    match s, hs with
    | 0, _ =>
      refine am_iload_n rfl rfl ?_
      refine am_if_ne rfl (fun h => absurd rfl h) (fun _ => ?_)
      refine am_iload rfl rfl ?_
      refine am_goto rfl ?_
      exact am_ireturn rfl (fun h => absurd h (by decide)) ⟨rfl, rfl⟩
    | 1, _ =>
      refine am_iload_n rfl rfl ?_
      refine am_if_ne rfl (fun _ => ?_) (fun h => absurd h (by decide))
      refine am_iload_n rfl rfl ?_
      refine am_iconst rfl ?_
      refine am_icmp_ne rfl (fun h => absurd rfl h) (fun _ => ?_)
      refine am_iload rfl rfl ?_
      refine am_goto rfl ?_
      exact am_ireturn rfl (fun h => absurd h (by decide)) ⟨rfl, rfl⟩
    | 2, _ =>
      refine am_iload_n rfl rfl ?_
      refine am_if_ne rfl (fun _ => ?_) (fun h => absurd h (by decide))
      refine am_iload_n rfl rfl ?_
      refine am_iconst rfl ?_
      refine am_icmp_ne rfl (fun _ => ?_) (fun h => absurd h (by decide))
      refine am_iload_n rfl rfl ?_
      refine am_aload_n rfl rfl rfl ?_
      refine am_get rfl rfl rfl ?_
      refine am_iload_n rfl rfl ?_
      refine am_iald rfl rfl rfl (by omega) (by decide) ?_
      refine am_icmp_le rfl (fun h65 => ?_) (fun h65 => ?_)
      · refine am_iconst rfl ?_
        refine am_ireturn rfl (fun h => absurd h (by decide)) ⟨?_, rfl⟩
        simp only [hsm, decide_eq_true h65, cond_true, cond_false]
      · refine am_iconst rfl ?_
        refine am_goto rfl ?_
        refine am_ireturn rfl (fun h => absurd h (by decide)) ⟨?_, rfl⟩
        simp only [hsm, decide_eq_false h65, cond_true, cond_false]
    | s + 3, hs => exact absurd hs (by omega)
end MM7
