/-! the class: a round of each algorithm, on -/
section CCHH
variable {g : am_G} {d : Nat} {ch : Option Nat} {S : am_S0} {n : Nat} {E : Nat → Nat → Option Nat}
/-- a node of CORE -/
def chg6 (E : Nat → Nat → Option Nat) (n v : Nat) (S : am_S0) : am_S0 := bif decide (S 24 v = 1) then (bif decide (nI (nbw E n (S 24) v 1) < S 1 5) then w3 S v 0 (S 1 6) (nI (nbw E n (S 24) v 1)) else am_up S 22 (upd (S 22) v (nI (nbw E n (S 24) v 1)))) else S
theorem chg6_ag (v : Nat) (S : am_S0) : Ag S (chg6 E n v S) := by
  unfold chg6
  cases decide (S 24 v = 1)
  · exact Ag.rf
  · show Ag S (bif _ then _ else _)
    cases decide (nI (nbw E n (S 24) v 1) < S 1 5)
    · exact Ag.rf.up (Or.inr (Or.inr rfl))
    · exact Ag.w3
/-- Core.change() -/
theorem s_chg6 (N : NetIs S n E)  : AW g (d + 3) 0 0 83 0 (am_L0 83 [.ref 36, .ref 1]) [] (mem ch S) (am_is none (mem ch (itr (chg6 E n) n S))) := by
  have hn := N.2.1
  refine am_iconst rfl ?_
  refine am_istore_n rfl ?_
  refine am_Meq (M' := mem ch (itr (chg6 E n) 0 S)) rfl ?_
  show AW g (d + 3) 0 0 83 2 [some (.ref 36), some (.ref 1), some (.int (nI 0))] [] _ _
  refine am_for (n) (fun v => [some (.ref 36), some (.ref 1), some (.int (nI v))]) (fun v => mem ch (itr (chg6 E n) v S)) (fun v hv k => ?_) ?_ n 0 (by omega)
  · rw [itr_s] at k
    have A : Ag S (itr (chg6 E n) v S) := Ag.itr chg6_ag v S
    generalize itr (chg6 E n) v S = S1 at A k ⊢
    have N1 := N.ag A
    refine am_iload_n rfl rfl ?_
    refine am_aload_n rfl rfl rfl ?_
    refine am_get rfl rfl rfl ?_
    refine am_get rfl rfl rfl ?_
    refine am_icmp_ge rfl (fun h => absurd h (nd_lt N1.1 N.2.1 hv)) (fun _ => ?_)
    refine am_aload_n rfl rfl rfl ?_
    refine am_get rfl rfl rfl ?_
    refine am_iconst rfl ?_
    refine am_aald (k8 := 0) rfl rfl (Or.inl rfl) rfl (by decide) (by decide) rfl ?_
    refine am_iload_n rfl rfl ?_
    refine am_iald rfl rfl rfl (by omega) (by decide) ?_
    refine am_iconst rfl ?_
    refine am_icmp_ne rfl (fun h14 => ?_) (fun h14 => ?_)
    · refine am_aload_n rfl rfl rfl ?_
      refine am_iload_n rfl rfl ?_
      first
        | refine am_Sx [.ref 1, .int (nI v)] rfl rfl rfl rfl (s_drops (d := d) N2 v (by omega)) ?_
        | refine am_Sx [.ref 1, .int (nI v)] rfl rfl rfl rfl (s_drops (d := d) N1 v (by omega)) ?_
      refine am_if_eq rfl (fun h28 => ?_) (fun h28 => ?_)
      · refine am_iinc rfl rfl ?_
        refine am_goto rfl ?_
        unfold chg6 at k
        first
          | (have h28 : drp S1 E n v = false := bi_0 h28
             unfold drp at h28
             rw [decide_eq_true h14, Bool.true_and] at h28
             rw [decide_eq_true h14, cond_true, h28, cond_false] at k
             simp only [nI_succ] at k
             exact k)
          | (have h28 : drp S1 E n v = true := bi_1 h28
             unfold drp at h28
             rw [decide_eq_true h14, Bool.true_and] at h28
             rw [decide_eq_true h14, cond_true, h28, cond_true] at k
             simp only [nI_succ] at k
             exact am_Meq rfl k)
          | (have h28 : drp S1 E n v = true := bi_1 h28
             unfold drp at h28
             rw [decide_eq_false h14, Bool.false_and] at h28
             cases h28)
          | (rw [decide_eq_false h14, cond_false] at k
             simp only [nI_succ] at k
             exact k)
      · refine am_aload_n rfl rfl rfl ?_
        refine am_get rfl rfl rfl ?_
        refine am_iconst rfl ?_
        refine am_aald (k8 := 0) rfl rfl (Or.inl rfl) rfl (by decide) (by decide) rfl ?_
        refine am_iload_n rfl rfl ?_
        refine am_iconst rfl ?_
        refine am_iast rfl rfl rfl (by omega) (by decide) ?_
        refine am_aload_n rfl rfl rfl ?_
        refine am_get rfl rfl rfl ?_
        refine am_iconst rfl ?_
        refine am_aald (k8 := 1) rfl rfl (Or.inl rfl) rfl (by decide) (by decide) rfl ?_
        refine am_iload_n rfl rfl ?_
        refine am_aload_n rfl rfl rfl ?_
        refine am_get rfl rfl rfl ?_
        refine am_iast rfl rfl rfl (by omega) (by decide) ?_
        refine am_iinc rfl rfl ?_
        refine am_goto rfl ?_
        unfold chg6 at k
        first
          | (have h28 : drp S1 E n v = false := bi_0 h28
             unfold drp at h28
             rw [decide_eq_true h14, Bool.true_and] at h28
             rw [decide_eq_true h14, cond_true, h28, cond_false] at k
             simp only [nI_succ] at k
             exact k)
          | (have h28 : drp S1 E n v = true := bi_1 h28
             unfold drp at h28
             rw [decide_eq_true h14, Bool.true_and] at h28
             rw [decide_eq_true h14, cond_true, h28, cond_true] at k
             simp only [nI_succ] at k
             exact am_Meq rfl k)
          | (have h28 : drp S1 E n v = true := bi_1 h28
             unfold drp at h28
             rw [decide_eq_false h14, Bool.false_and] at h28
             cases h28)
          | (rw [decide_eq_false h14, cond_false] at k
             simp only [nI_succ] at k
             exact k)
    · refine am_aload_n rfl rfl rfl ?_
      refine am_get rfl rfl rfl ?_
      refine am_iconst rfl ?_
      refine am_aald (k8 := 2) rfl rfl (Or.inl rfl) rfl (by decide) (by decide) rfl ?_
      refine am_iload_n rfl rfl ?_
      refine am_aload_n rfl rfl rfl ?_
      refine am_iload_n rfl rfl ?_
      refine am_iconst rfl ?_
      refine am_Vx [.int (nI v), .int 1] rfl rfl rfl rfl rfl rfl (s_countNW (d := d + 1) N1 v (by omega) 1) ?_
      refine am_iast rfl rfl rfl (by omega) (by decide) ?_
      refine am_Meq (M' := mem ch (am_up S1 22 (upd (S1 22) v (nI (nbw E n (S1 24) v 1))))) rfl ?_
      have N2 := N1.up (k := 22) (f := upd (S1 22) v (nI (nbw E n (S1 24) v 1))) (by decide)
      refine am_aload_n rfl rfl rfl ?_
      refine am_iload_n rfl rfl ?_
      first
        | refine am_Sx [.ref 1, .int (nI v)] rfl rfl rfl rfl (s_drops (d := d) N2 v (by omega)) ?_
        | refine am_Sx [.ref 1, .int (nI v)] rfl rfl rfl rfl (s_drops (d := d) N1 v (by omega)) ?_
      refine am_if_eq rfl (fun h28 => ?_) (fun h28 => ?_)
      · refine am_iinc rfl rfl ?_
        refine am_goto rfl ?_
        unfold chg6 at k
        first
          | (have h28 : drp S1 E n v = false := bi_0 h28
             unfold drp at h28
             rw [decide_eq_true h14, Bool.true_and] at h28
             rw [decide_eq_true h14, cond_true, h28, cond_false] at k
             simp only [nI_succ] at k
             exact k)
          | (have h28 : drp S1 E n v = true := bi_1 h28
             unfold drp at h28
             rw [decide_eq_true h14, Bool.true_and] at h28
             rw [decide_eq_true h14, cond_true, h28, cond_true] at k
             simp only [nI_succ] at k
             exact am_Meq rfl k)
          | (have h28 : drp S1 E n v = true := bi_1 h28
             unfold drp at h28
             rw [decide_eq_false h14, Bool.false_and] at h28
             cases h28)
          | (rw [decide_eq_false h14, cond_false] at k
             simp only [nI_succ] at k
             exact k)
      · refine am_aload_n rfl rfl rfl ?_
        refine am_get rfl rfl rfl ?_
        refine am_iconst rfl ?_
        refine am_aald (k8 := 0) rfl rfl (Or.inl rfl) rfl (by decide) (by decide) rfl ?_
        refine am_iload_n rfl rfl ?_
        refine am_iconst rfl ?_
        refine am_iast rfl rfl rfl (by omega) (by decide) ?_
        refine am_aload_n rfl rfl rfl ?_
        refine am_get rfl rfl rfl ?_
        refine am_iconst rfl ?_
        refine am_aald (k8 := 1) rfl rfl (Or.inl rfl) rfl (by decide) (by decide) rfl ?_
        refine am_iload_n rfl rfl ?_
        refine am_aload_n rfl rfl rfl ?_
        refine am_get rfl rfl rfl ?_
        refine am_iast rfl rfl rfl (by omega) (by decide) ?_
        refine am_iinc rfl rfl ?_
        refine am_goto rfl ?_
        unfold chg6 at k
        first
          | (have h28 : drp S1 E n v = false := bi_0 h28
             unfold drp at h28
             rw [decide_eq_true h14, Bool.true_and] at h28
             rw [decide_eq_true h14, cond_true, h28, cond_false] at k
             simp only [nI_succ] at k
             exact k)
          | (have h28 : drp S1 E n v = true := bi_1 h28
             unfold drp at h28
             rw [decide_eq_true h14, Bool.true_and] at h28
             rw [decide_eq_true h14, cond_true, h28, cond_true] at k
             simp only [nI_succ] at k
             exact am_Meq rfl k)
          | (have h28 : drp S1 E n v = true := bi_1 h28
             unfold drp at h28
             rw [decide_eq_false h14, Bool.false_and] at h28
             cases h28)
          | (rw [decide_eq_false h14, cond_false] at k
             simp only [nI_succ] at k
             exact k)
  · have A : Ag S (itr (chg6 E n) n S) := Ag.itr chg6_ag n S
    generalize itr (chg6 E n) n S = S1 at A ⊢
    have N1 := N.ag A
    refine am_iload_n rfl rfl ?_
    refine am_aload_n rfl rfl rfl ?_
    refine am_get rfl rfl rfl ?_
    refine am_get rfl rfl rfl ?_
    refine am_icmp_ge rfl (fun _ => ?_) (fun h => absurd (nd_ge N1.1 N.2.1) h)
    exact am_return rfl ⟨rfl, rfl⟩
/-- Colours.lowestDifference(one, other) -/
def ldf (x y : Int32) : Nat := (fst? (fun p => !decide (((x ^^^ y) >>> (nI p &&& 31)) &&& 1 = 0)) 31).getD 31
theorem s_ldf (x y : Int32) : AW g d 0 0 82 0 (am_L0 82 [.int x, .int y]) [] (mem ch S) (am_is (some (.int (nI (ldf x y)))) (mem ch S)) := by
  unfold ldf
  refine am_iload_n rfl rfl ?_
  refine am_iload_n rfl rfl ?_
  refine am_ixor rfl ?_
  refine am_istore_n rfl ?_
  refine am_iconst rfl ?_
  refine am_istore_n rfl ?_
  show AW g d 0 0 82 6 [some (.int x), some (.int y), some (.int (x ^^^ y)), some (.int (nI 0))] [] (mem ch S) _
  refine am_forI (31) (fun v => [some (.int x), some (.int y), some (.int (x ^^^ y)), some (.int (nI v))]) (fun v => mem ch S) (fun v => ∀ u, u < v → (!decide (((x ^^^ y) >>> (nI u &&& 31)) &&& 1 = 0)) = false) (fun v hv hi k => ?_) (fun hi => ?_) 31 0 (by omega) (fun u h => absurd h (Nat.not_lt_zero _))
  · refine am_iload_n rfl rfl ?_
    refine am_bipush rfl ?_
    refine am_icmp_ge rfl (fun h => absurd h (nI_ge hv (by decide))) (fun _ => ?_)
    refine am_iload_n rfl rfl ?_
    refine am_iload_n rfl rfl ?_
    refine am_ishr rfl ?_
    refine am_iconst rfl ?_
    refine am_iand rfl ?_
    refine am_if_ne rfl (fun h14 => ?_) (fun h14 => ?_)
    · refine am_iload_n rfl rfl ?_
      refine am_ireturn rfl (fun h => absurd h (by decide)) ⟨?_, rfl⟩
      rw [fst?_some (v := v) (by rw [decide_eq_false h14]; rfl) hi hv]
      rfl
    · refine am_iinc rfl rfl ?_
      refine am_goto rfl ?_
      have k := k (fun u hu => by
        by_cases e : u = v
        · subst e
          rw [decide_eq_true h14]
          rfl
        · exact hi u (by omega))
      simp only [nI_succ] at k
      exact k
  · refine am_iload_n rfl rfl ?_
    refine am_bipush rfl ?_
    refine am_icmp_ge rfl (fun _ => ?_) (fun h => absurd (nI_le (Nat.le_refl 31) (by decide)) h)
    refine am_iload_n rfl rfl ?_
    refine am_ireturn rfl (fun h => absurd h (by decide)) ⟨?_, rfl⟩
    rw [fst?_none hi]
    rfl
/-- the parents p, as the class holds them -/
def PrIs (S : am_S0) (n : Nat) (p : Nat → Option Nat) : Prop := ∀ v, v < n → S 28 v = em (p v) ∧ ∀ u, p v = some u → u < 12
theorem PrIs.ag {S1 : am_S0} {p : Nat → Option Nat} (h : PrIs S n p) (A : Ag S S1) : PrIs S1 n p := fun v hv => by rw [A 28 (by decide) (by decide) (by decide)]; exact h v hv
def col (S : am_S0) (p : Nat → Option Nat) (v : Nat) : Int32 := match p v with
  | none => 2 * 0 + (((S 24 v) >>> ((0 : Int32) &&& 31)) &&& 1)
  | some u => 2 * nI (ldf (S 24 v) (S 24 u)) + (((S 24 v) >>> (nI (ldf (S 24 v) (S 24 u)) &&& 31)) &&& 1)
def chg3 (p : Nat → Option Nat) (v : Nat) (S : am_S0) : am_S0 := am_up S 20 (upd (S 20) v (col S p v))
theorem chg3_ag (p : Nat → Option Nat) (v : Nat) (S : am_S0) : Ag S (chg3 p v S) := Ag.rf.up (Or.inl rfl)
theorem s_chg3 (N : NetIs S n E) {p : Nat → Option Nat} (Pr : PrIs S n p) : AW g (d + 1) 0 0 81 0 (am_L0 81 [.ref 33, .ref 1]) [] (mem ch S) (am_is none (mem ch (itr (chg3 p) n S))) := by
  have hn := N.2.1
  refine am_iconst rfl ?_
  refine am_istore_n rfl ?_
  refine am_Meq (M' := mem ch (itr (chg3 p) 0 S)) rfl ?_
  show AW g (d + 1) 0 0 81 2 [some (.ref 33), some (.ref 1), some (.int (nI 0)), none, none, none] [] _ _
  have key : ∀ y : Option Value × Option Value × Option Value, AW g (d + 1) 0 0 81 2 [some (.ref 33), some (.ref 1), some (.int (nI 0)), y.1, y.2.1, y.2.2] [] (mem ch (itr (chg3 p) 0 S)) (am_is none (mem ch (itr (chg3 p) n S))) := by
    intro y
    refine am_forS n (fun v y => [some (.ref 33), some (.ref 1), some (.int (nI v)), y.1, y.2.1, y.2.2]) (fun v _ => mem ch (itr (chg3 p) v S)) (fun _ _ => True) (fun v y hv _ k => ?_) (fun y _ => ?_) n 0 y (by omega) trivial
    · rw [itr_s] at k
      have A : Ag S (itr (chg3 p) v S) := Ag.itr (chg3_ag p) v S
      generalize itr (chg3 p) v S = S1 at A k ⊢
      have N1 := N.ag A
      obtain ⟨hp1, hp2⟩ := Pr.ag A v hv
      refine am_iload_n rfl rfl ?_
      refine am_aload_n rfl rfl rfl ?_
      refine am_get rfl rfl rfl ?_
      refine am_get rfl rfl rfl ?_
      refine am_icmp_ge rfl (fun h => absurd h (nd_lt N1.1 N.2.1 hv)) (fun _ => ?_)
      refine am_aload_n rfl rfl rfl ?_
      refine am_get rfl rfl rfl ?_
      refine am_iconst rfl ?_
      refine am_aald (k8 := 0) rfl rfl (Or.inl rfl) rfl (by decide) (by decide) rfl ?_
      refine am_iload_n rfl rfl ?_
      refine am_iald rfl rfl rfl (by omega) (by decide) ?_
      refine am_istore_n rfl ?_
      refine am_aload_n rfl rfl rfl ?_
      refine am_get rfl rfl rfl ?_
      refine am_iload_n rfl rfl ?_
      refine am_iald rfl rfl rfl (by omega) (by decide) ?_
      rw [hp1]
      refine am_istore rfl ?_
      refine am_iload rfl rfl ?_
      refine am_iconst rfl ?_
      refine am_icmp_ne rfl (fun h21 => ?_) (fun h21 => ?_)
      · obtain ⟨u, hu, hu2⟩ := em_lt (fun e he => by have := hp2 e he; omega) h21
        have hul := hp2 u hu
        refine am_iload_n rfl rfl ?_
        refine am_aload_n rfl rfl rfl ?_
        refine am_get rfl rfl rfl ?_
        refine am_iconst rfl ?_
        refine am_aald (k8 := 0) rfl rfl (Or.inl rfl) rfl (by decide) (by decide) rfl ?_
        refine am_iload rfl rfl ?_
        refine am_iald rfl rfl hu2 (by omega) (by decide) ?_
        refine am_Sx [.int (S1 24 v), .int (S1 24 u)] rfl rfl rfl rfl (s_ldf (d := d) _ _) ?_
        refine am_istore rfl ?_
        refine am_aload_n rfl rfl rfl ?_
        refine am_get rfl rfl rfl ?_
        refine am_iconst rfl ?_
        refine am_aald (k8 := 0) rfl rfl (Or.inl rfl) rfl (by decide) (by decide) rfl ?_
        refine am_iload_n rfl rfl ?_
        refine am_iconst rfl ?_
        refine am_iload rfl rfl ?_
        refine am_imul rfl ?_
        refine am_iload_n rfl rfl ?_
        refine am_iload rfl rfl ?_
        refine am_ishr rfl ?_
        refine am_iconst rfl ?_
        refine am_iand rfl ?_
        refine am_iadd rfl ?_
        refine am_iast rfl rfl rfl (by omega) (by decide) ?_
        refine am_iinc rfl rfl ?_
        refine am_goto rfl ?_
        have k := k (some (.int (S1 24 v)), some (.int (em (p v))), some (.int (nI (ldf (S1 24 v) (S1 24 u))))) trivial
        unfold chg3 col at k
        simp only [hu, nI_succ] at k
        rw [hu]
        exact am_Meq rfl k
      · have h24 := (em_n1 (fun e he => by have := hp2 e he; omega)).mp h21
        refine am_iconst rfl ?_
        refine am_goto rfl ?_
        refine am_istore rfl ?_
        refine am_aload_n rfl rfl rfl ?_
        refine am_get rfl rfl rfl ?_
        refine am_iconst rfl ?_
        refine am_aald (k8 := 0) rfl rfl (Or.inl rfl) rfl (by decide) (by decide) rfl ?_
        refine am_iload_n rfl rfl ?_
        refine am_iconst rfl ?_
        refine am_iload rfl rfl ?_
        refine am_imul rfl ?_
        refine am_iload_n rfl rfl ?_
        refine am_iload rfl rfl ?_
        refine am_ishr rfl ?_
        refine am_iconst rfl ?_
        refine am_iand rfl ?_
        refine am_iadd rfl ?_
        refine am_iast rfl rfl rfl (by omega) (by decide) ?_
        refine am_iinc rfl rfl ?_
        refine am_goto rfl ?_
        have k := k (some (.int (S1 24 v)), some (.int (em (p v))), some (.int 0)) trivial
        unfold chg3 col at k
        simp only [h24, nI_succ] at k
        rw [h24]
        exact am_Meq rfl k
    · have A : Ag S (itr (chg3 p) n S) := Ag.itr (chg3_ag p) n S
      generalize itr (chg3 p) n S = S1 at A ⊢
      have N1 := N.ag A
      refine am_iload_n rfl rfl ?_
      refine am_aload_n rfl rfl rfl ?_
      refine am_get rfl rfl rfl ?_
      refine am_get rfl rfl rfl ?_
      refine am_icmp_ge rfl (fun _ => ?_) (fun h => absurd (nd_ge N1.1 N.2.1) h)
      exact am_return rfl ⟨rfl, rfl⟩
  exact key (none, none, none)
/-- Pairs.favourite(v) -/
def fav1 (S : am_S0) (E : Nat → Nat → Option Nat) (v u : Nat) (b : Option Nat) : Option Nat := match E v u with
  | none => b
  | some e => bif decide (S 24 u = -1) then (match b with
    | none => some u
    | some w => bif hvy (S 4) e ((E v w).getD 0) then some u else b) else b
def fav (S : am_S0) (E : Nat → Nat → Option Nat) (n v : Nat) : Option Nat := bif decide (S 24 v = -1) then itr (fav1 S E v) n none else none
theorem fav_lt {v k u : Nat} (h : itr (fav1 S E v) k none = some u) : u < k ∧ ∃ e, E v u = some e := by
  induction k generalizing u with
  | zero => cases h
  | succ k ih =>
    rw [itr_s] at h
    generalize hb : itr (fav1 S E v) k none = b at h ih
    have old : ∀ u, b = some u → u < k + 1 ∧ ∃ e, E v u = some e := fun u hu => ⟨by have := (ih hu).1; omega, (ih hu).2⟩
    unfold fav1 at h
    cases he : E v k with
    | none => rw [he] at h; exact old u h
    | some e =>
      rw [he] at h
      simp only at h
      cases hc : decide (S 24 k = -1) with
      | false => rw [hc] at h; exact old u h
      | true =>
        rw [hc] at h
        cases b with
        | none => cases h; exact ⟨by omega, e, he⟩
        | some w =>
          simp only [cond_true] at h
          cases hv : hvy (S 4) e ((E v w).getD 0) with
          | false => rw [hv] at h; exact old u h
          | true => rw [hv] at h; cases h; exact ⟨by omega, e, he⟩
theorem s_fav (N : NetIs S n E) (x : Nat) (hx : x < 12) : AW g (d + 1) 0 0 87 0 (am_L0 87 [.ref 1, .int (nI x)]) [] (mem ch S) (am_is (some (.int (em (fav S E n x)))) (mem ch S)) := by
  have hn := N.2.1
  unfold fav
  refine am_aload_n rfl rfl rfl ?_
  refine am_get rfl rfl rfl ?_
  refine am_iconst rfl ?_
  refine am_aald (k8 := 0) rfl rfl (Or.inl rfl) rfl (by decide) (by decide) rfl ?_
  refine am_iload_n rfl rfl ?_
  refine am_iald rfl rfl rfl hx (by decide) ?_
  refine am_iconst rfl ?_
  refine am_icmp_eq rfl (fun h7 => ?_) (fun h7 => ?_)
  · refine am_aload_n rfl rfl rfl ?_
    refine am_get rfl rfl rfl ?_
    refine am_get rfl rfl rfl ?_
    refine am_iload_n rfl rfl ?_
    refine am_aald rfl rfl (Or.inl rfl) rfl hx (by decide) (if_pos hx) ?_
    refine am_astore_n rfl ?_
    refine am_iconst rfl ?_
    refine am_istore_n rfl ?_
    refine am_iconst rfl ?_
    refine am_istore rfl ?_
    rw [decide_eq_true h7, cond_true]
    show AW g (d + 1) 0 0 87 20 [some (.ref 1), some (.int (nI x)), some (.ref (6 + x)), some (.int (em (itr (fav1 S E x) 0 none))), some (.int (nI 0))] [] (mem ch S) _
    refine am_for (n) (fun v => [some (.ref 1), some (.int (nI x)), some (.ref (6 + x)), some (.int (em (itr (fav1 S E x) v none))), some (.int (nI v))]) (fun v => mem ch S) (fun v hv k => ?_) ?_ n 0 (by omega)
    · rw [itr_s] at k
      have hb : ∀ u, itr (fav1 S E x) v none = some u → u < 12 ∧ ∃ e, E x u = some e := fun u hu => ⟨by have := (fav_lt hu).1; omega, (fav_lt hu).2⟩
      generalize itr (fav1 S E x) v none = b at hb k ⊢
      unfold fav1 at k
      have hev := N.2.2.1 x v hx (by omega)
      refine am_iload rfl rfl ?_
      refine am_aload_n rfl rfl rfl ?_
      refine am_get rfl rfl rfl ?_
      refine am_get rfl rfl rfl ?_
      refine am_icmp_ge rfl (fun h => absurd h (nd_lt N.1 N.2.1 hv)) (fun _ => ?_)
      refine am_aload_n rfl rfl rfl ?_
      refine am_iload rfl rfl ?_
      refine am_iald rfl (mem_eb x hx) rfl (by omega) (by decide) ?_
      rw [hev]
      refine am_iconst rfl ?_
      refine am_icmp_eq rfl (fun h29 => ?_) (fun h29 => ?_)
      · have h30 := (em_n1 (N.2.2.2 x v)).mp h29
        rw [h30] at k
        refine am_iinc rfl rfl ?_
        refine am_goto rfl ?_
        simp only [nI_succ] at k
        exact k
      · obtain ⟨e, he, he2⟩ := em_lt (N.2.2.2 x v) h29
        have hel := N.2.2.2 x v e he
        rw [he] at k
        simp only at k
        refine am_aload_n rfl rfl rfl ?_
        refine am_get rfl rfl rfl ?_
        refine am_iconst rfl ?_
        refine am_aald (k8 := 0) rfl rfl (Or.inl rfl) rfl (by decide) (by decide) rfl ?_
        refine am_iload rfl rfl ?_
        refine am_iald rfl rfl rfl (by omega) (by decide) ?_
        refine am_iconst rfl ?_
        refine am_icmp_ne rfl (fun h37 => ?_) (fun h37 => ?_)
        · rw [decide_eq_false h37, cond_false] at k
          refine am_iinc rfl rfl ?_
          refine am_goto rfl ?_
          simp only [nI_succ] at k
          exact k
        · rw [decide_eq_true h37, cond_true] at k
          refine am_iload_n rfl rfl ?_
          refine am_iconst rfl ?_
          refine am_icmp_eq rfl (fun h40 => ?_) (fun h40 => ?_)
          · have h41 := (em_n1 (fun e he => by have := (hb e he).1; omega)).mp h40
            subst h41
            refine am_iload rfl rfl ?_
            refine am_istore_n rfl ?_
            refine am_iinc rfl rfl ?_
            refine am_goto rfl ?_
            simp only [nI_succ] at k
            exact k
          · obtain ⟨w, hw, hw2⟩ := em_lt (fun e he => by have := (hb e he).1; omega) h40
            subst hw
            obtain ⟨hwl, f, hf⟩ := hb w rfl
            have hfl := N.2.2.2 x w f hf
            simp only [hf, Option.getD_some] at k
            refine am_aload_n rfl rfl rfl ?_
            refine am_get rfl rfl rfl ?_
            refine am_aload_n rfl rfl rfl ?_
            refine am_iload rfl rfl ?_
            refine am_iald rfl (mem_eb x hx) rfl (by omega) (by decide) ?_
            rw [hev, he]
            refine am_aload_n rfl rfl rfl ?_
            refine am_iload_n rfl rfl ?_
            refine am_iald rfl (mem_eb x hx) hw2 hwl (by decide) ?_
            rw [N.2.2.1 x w hx hwl, hf]
            refine am_Vx [.int (nI e), .int (nI f)] rfl rfl rfl rfl rfl rfl (s_heavier (d := d) e f hel hfl) ?_
            refine am_if_eq rfl (fun h50 => ?_) (fun h50 => ?_)
            · rw [bi_0 h50, cond_false] at k
              refine am_iinc rfl rfl ?_
              refine am_goto rfl ?_
              simp only [nI_succ] at k
              exact k
            · rw [bi_1 h50, cond_true] at k
              refine am_iload rfl rfl ?_
              refine am_istore_n rfl ?_
              refine am_iinc rfl rfl ?_
              refine am_goto rfl ?_
              simp only [nI_succ] at k
              exact k
    · refine am_iload rfl rfl ?_
      refine am_aload_n rfl rfl rfl ?_
      refine am_get rfl rfl rfl ?_
      refine am_get rfl rfl rfl ?_
      refine am_icmp_ge rfl (fun _ => ?_) (fun h => absurd (nd_ge N.1 N.2.1) h)
      refine am_iload_n rfl rfl ?_
      refine am_ireturn rfl (fun h => absurd h (by decide)) ⟨?_, rfl⟩
      rfl
  · refine am_iconst rfl ?_
    refine am_ireturn rfl (fun h => absurd h (by decide)) ⟨?_, rfl⟩
    rw [decide_eq_false h7]
    rfl
def chg5 (E : Nat → Nat → Option Nat) (n v : Nat) (S : am_S0) : am_S0 := match fav S E n v with
  | none => S
  | some u => bif decide (fav S E n u = some v) then w2 S v (nI u) (S 1 6) else S
theorem chg5_ag (v : Nat) (S : am_S0) : Ag S (chg5 E n v S) := by
  unfold chg5
  cases fav S E n v with
  | none => exact Ag.rf
  | some u =>
    show Ag S (bif _ then _ else _)
    cases decide (fav S E n u = some v)
    · exact Ag.rf
    · exact Ag.w2
theorem fav_lt2 {v u : Nat} (h : fav S E n v = some u) : u < n := by
  unfold fav at h
  cases hc : decide (S 24 v = -1) with
  | false => rw [hc] at h; cases h
  | true => rw [hc] at h; exact (fav_lt h).1
theorem em_inj {x : Option Nat} {v : Nat} (hx : ∀ e, x = some e → e < 24) (hv : v < 24) : em x = nI v ↔ x = some v := by
  cases x with
  | none => exact ⟨fun h => absurd h (neg1_nI v (by omega)), fun h => by cases h⟩
  | some e =>
    show nI e = nI v ↔ _
    rw [nI_eq (by have := hx e rfl; omega) (by omega)]
    exact ⟨fun h => by rw [h], fun h => Option.some.inj h⟩
theorem s_chg5 (N : NetIs S n E) : AW g (d + 2) 0 0 86 0 (am_L0 86 [.ref 35, .ref 1]) [] (mem ch S) (am_is none (mem ch (itr (chg5 E n) n S))) := by
  have hn := N.2.1
  refine am_iconst rfl ?_
  refine am_istore_n rfl ?_
  refine am_Meq (M' := mem ch (itr (chg5 E n) 0 S)) rfl ?_
  show AW g (d + 2) 0 0 86 2 [some (.ref 35), some (.ref 1), some (.int (nI 0)), none] [] _ _
  have key : ∀ y : Option Value, AW g (d + 2) 0 0 86 2 [some (.ref 35), some (.ref 1), some (.int (nI 0)), y] [] (mem ch (itr (chg5 E n) 0 S)) (am_is none (mem ch (itr (chg5 E n) n S))) := by
    intro y
    refine am_forS n (fun v y => [some (.ref 35), some (.ref 1), some (.int (nI v)), y]) (fun v _ => mem ch (itr (chg5 E n) v S)) (fun _ _ => True) (fun v y hv _ k => ?_) (fun y _ => ?_) n 0 y (by omega) trivial
    · rw [itr_s] at k
      have A : Ag S (itr (chg5 E n) v S) := Ag.itr chg5_ag v S
      generalize itr (chg5 E n) v S = S1 at A k ⊢
      have N1 := N.ag A
      have k := k (some (.int (em (fav S1 E n v)))) trivial
      unfold chg5 at k
      refine am_iload_n rfl rfl ?_
      refine am_aload_n rfl rfl rfl ?_
      refine am_get rfl rfl rfl ?_
      refine am_get rfl rfl rfl ?_
      refine am_icmp_ge rfl (fun h => absurd h (nd_lt N1.1 N.2.1 hv)) (fun _ => ?_)
      refine am_aload_n rfl rfl rfl ?_
      refine am_iload_n rfl rfl ?_
      refine am_Sx [.ref 1, .int (nI v)] rfl rfl rfl rfl (s_fav (d := d) N1 v (by omega)) ?_
      refine am_istore_n rfl ?_
      refine am_iload_n rfl rfl ?_
      refine am_iconst rfl ?_
      refine am_icmp_eq rfl (fun h13 => ?_) (fun h13 => ?_)
      · have h14 := (em_n1 (fun e he => by have := fav_lt2 he; omega)).mp h13
        rw [h14] at k ⊢
        refine am_iinc rfl rfl ?_
        refine am_goto rfl ?_
        simp only [nI_succ] at k
        exact k
      · obtain ⟨u, hu, hu2⟩ := em_lt (fun e he => by have := fav_lt2 he; omega) h13
        have hul := fav_lt2 hu
        rw [hu] at k ⊢
        simp only at k
        show AW g (d + 2) 0 0 86 14 [some (.ref 35), some (.ref 1), some (.int (nI v)), some (.int (nI u))] [] (mem ch S1) _
        have k : AW g (d + 2) 0 0 86 2 [some (.ref 35), some (.ref 1), some (.int (nI (v + 1))), some (.int (nI u))] [] _ _ := k
        refine am_aload_n rfl rfl rfl ?_
        refine am_iload_n rfl rfl ?_
        refine am_Sx [.ref 1, .int (nI u)] rfl rfl rfl rfl (s_fav (d := d) N1 u (by omega)) ?_
        refine am_iload_n rfl rfl ?_
        refine am_icmp_ne rfl (fun h18 => ?_) (fun h18 => ?_)
        · refine am_iinc rfl rfl ?_
          refine am_goto rfl ?_
          first
            | (rw [decide_eq_false (fun q => h18 (by rw [q]; rfl)), cond_false] at k; simp only [nI_succ] at k; exact k)
            | (rw [decide_eq_true ((em_inj (fun e he => by have := fav_lt2 he; omega) (by omega)).mp h18), cond_true] at k; simp only [nI_succ] at k; exact am_Meq rfl k)
        · refine am_aload_n rfl rfl rfl ?_
          refine am_get rfl rfl rfl ?_
          refine am_iconst rfl ?_
          refine am_aald (k8 := 0) rfl rfl (Or.inl rfl) rfl (by decide) (by decide) rfl ?_
          refine am_iload_n rfl rfl ?_
          refine am_iload_n rfl rfl ?_
          refine am_iast rfl rfl rfl (by omega) (by decide) ?_
          refine am_aload_n rfl rfl rfl ?_
          refine am_get rfl rfl rfl ?_
          refine am_iconst rfl ?_
          refine am_aald (k8 := 1) rfl rfl (Or.inl rfl) rfl (by decide) (by decide) rfl ?_
          refine am_iload_n rfl rfl ?_
          refine am_aload_n rfl rfl rfl ?_
          refine am_get rfl rfl rfl ?_
          refine am_iast rfl rfl rfl (by omega) (by decide) ?_
          refine am_iinc rfl rfl ?_
          refine am_goto rfl ?_
          first
            | (rw [decide_eq_false (fun q => h18 (by rw [q]; rfl)), cond_false] at k; simp only [nI_succ] at k; exact k)
            | (rw [decide_eq_true ((em_inj (fun e he => by have := fav_lt2 he; omega) (by omega)).mp h18), cond_true] at k; simp only [nI_succ] at k; exact am_Meq rfl k)
    · have A : Ag S (itr (chg5 E n) n S) := Ag.itr chg5_ag n S
      generalize itr (chg5 E n) n S = S1 at A ⊢
      have N1 := N.ag A
      refine am_iload_n rfl rfl ?_
      refine am_aload_n rfl rfl rfl ?_
      refine am_get rfl rfl rfl ?_
      refine am_get rfl rfl rfl ?_
      refine am_icmp_ge rfl (fun _ => ?_) (fun h => absurd (nd_ge N1.1 N.2.1) h)
      exact am_return rfl ⟨rfl, rfl⟩
  exact key none
end CCHH
