/-! the class: a round of each algorithm -/
/-- the cells of what nodes hold apart, nothing has changed -/
def Ag (S S1 : am_S0) : Prop := ∀ k, k ≠ 20 → k ≠ 21 → k ≠ 22 → S1 k = S k
theorem Ag.rf {S : am_S0} : Ag S S := fun _ _ _ _ => rfl
theorem Ag.tr {S S1 S2 : am_S0} (h : Ag S S1) (h2 : Ag S1 S2) : Ag S S2 := fun k a b c => (h2 k a b c).trans (h k a b c)
theorem Ag.up {S S1 : am_S0} {k : Nat} {f : Nat → Int32} (h : Ag S S1) (hk : k = 20 ∨ k = 21 ∨ k = 22) : Ag S (am_up S1 k f) := fun j a b c => by rw [am_up_ne _ _ (by omega)]; exact h j a b c
theorem Ag.itr {f : Nat → am_S0 → am_S0} (hf : ∀ v S, Ag S (f v S)) : ∀ (n : Nat) (S : am_S0), Ag S (itr f n S)
  | 0, _ => Ag.rf
  | n + 1, S => (Ag.itr hf n S).tr (hf n _)
theorem NetIs.ag {S S1 : am_S0} {n : Nat} {E : Nat → Nat → Option Nat} (N : NetIs S n E) (h : Ag S S1) : NetIs S1 n E := by
  obtain ⟨h1, h2, h3, h4⟩ := N
  refine ⟨by rw [h 2 (by decide) (by decide) (by decide)]; exact h1, h2, fun u w hu hw => ?_, h4⟩
  rw [h (6 + u) (by omega) (by omega) (by omega)]
  exact h3 u w hu hw
/-- node v comes to hold x, y, z -/
def w3 (S : am_S0) (v : Nat) (x y z : Int32) : am_S0 := am_up (am_up (am_up S 20 (upd (S 20) v x)) 21 (upd (S 21) v y)) 22 (upd (S 22) v z)
def w2 (S : am_S0) (v : Nat) (x y : Int32) : am_S0 := am_up (am_up S 20 (upd (S 20) v x)) 21 (upd (S 21) v y)
theorem Ag.w3 {S : am_S0} {v : Nat} {x y z : Int32} : Ag S (w3 S v x y z) := ((Ag.rf.up (Or.inl rfl)).up (Or.inr (Or.inl rfl))).up (Or.inr (Or.inr rfl))
theorem Ag.w2 {S : am_S0} {v : Nat} {x y : Int32} : Ag S (w2 S v x y) := (Ag.rf.up (Or.inl rfl)).up (Or.inr (Or.inl rfl))
section CCHG
variable {g : am_G} {d : Nat} {ch : Option Nat} {S : am_S0} {n : Nat} {E : Nat → Nat → Option Nat}
/-- Least.learn(v) -/
def lrn1 (E : Nat → Nat → Option Nat) (v u : Nat) (S : am_S0) : am_S0 := bif (E v u).isSome && decide (S 24 u < S 20 v) then w3 S v (S 24 u) (S 25 u + 1) (nI u) else S
theorem lrn1_ag (v u : Nat) (S : am_S0) : Ag S (lrn1 E v u S) := by
  unfold lrn1
  cases (E v u).isSome && decide (S 24 u < S 20 v)
  · exact Ag.rf
  · exact Ag.w3
def lrn (E : Nat → Nat → Option Nat) (n v : Nat) (S : am_S0) : am_S0 := itr (lrn1 E v) n S
theorem lrn_ag (v : Nat) (S : am_S0) : Ag S (lrn E n v S) := Ag.itr (lrn1_ag v) n S
theorem s_learn (N : NetIs S n E) (x : Nat) (hx : x < 12) : AW g (d + 1) 0 0 85 0 (am_L0 85 [.ref 1, .int (nI x)]) [] (mem ch S) (am_is none (mem ch (lrn E n x S))) := by
  have hn := N.2.1
  unfold lrn
  refine am_iconst rfl ?_
  refine am_istore_n rfl ?_
  refine am_Meq (M' := mem ch (itr (lrn1 E x) 0 S)) rfl ?_
  show AW g (d + 1) 0 0 85 2 [some (.ref 1), some (.int (nI x)), some (.int (nI 0))] [] _ _
  refine am_for (n) (fun v => [some (.ref 1), some (.int (nI x)), some (.int (nI v))]) (fun v => mem ch (itr (lrn1 E x) v S)) (fun v hv k => ?_) ?_ n 0 (by omega)
  · rw [itr_s] at k
    have A : Ag S (itr (lrn1 E x) v S) := Ag.itr (lrn1_ag x) v S
    generalize itr (lrn1 E x) v S = S1 at A k ⊢
    have N1 := N.ag A
    unfold lrn1 at k
    refine am_iload_n rfl rfl ?_
    refine am_aload_n rfl rfl rfl ?_
    refine am_get rfl rfl rfl ?_
    refine am_get rfl rfl rfl ?_
    refine am_icmp_ge rfl (fun h => absurd h (nd_lt N1.1 N.2.1 hv)) (fun _ => ?_)
    refine am_aload_n rfl rfl rfl ?_
    refine am_get rfl rfl rfl ?_
    refine am_iload_n rfl rfl ?_
    refine am_iload_n rfl rfl ?_
    refine am_Vx [.int (nI x), .int (nI v)] rfl rfl rfl rfl rfl rfl (s_areN N1 x v hx (by omega)) ?_
    refine am_if_eq rfl (fun h12 => ?_) (fun h12 => ?_)
    · refine am_iinc rfl rfl ?_
      refine am_goto rfl ?_
      first
        | (rw [bi_0 h12, Bool.false_and, cond_false] at k; simp only [nI_succ] at k; exact k)
        | (rw [bi_1 h12, decide_eq_false (Int32.not_lt.mpr h25), Bool.and_false, cond_false] at k; simp only [nI_succ] at k; exact k)
        | (rw [bi_1 h12, decide_eq_true (Int32.not_le.mp h25), Bool.and_self, cond_true] at k; simp only [nI_succ] at k; exact am_Meq rfl k)
    · refine am_aload_n rfl rfl rfl ?_
      refine am_get rfl rfl rfl ?_
      refine am_iconst rfl ?_
      refine am_aald (k8 := 0) rfl rfl (Or.inl rfl) rfl (by decide) (by decide) rfl ?_
      refine am_iload_n rfl rfl ?_
      refine am_iald rfl rfl rfl (by omega) (by decide) ?_
      refine am_aload_n rfl rfl rfl ?_
      refine am_get rfl rfl rfl ?_
      refine am_iconst rfl ?_
      refine am_aald (k8 := 0) rfl rfl (Or.inl rfl) rfl (by decide) (by decide) rfl ?_
      refine am_iload_n rfl rfl ?_
      refine am_iald rfl rfl rfl (by omega) (by decide) ?_
      refine am_icmp_ge rfl (fun h25 => ?_) (fun h25 => ?_)
      · refine am_iinc rfl rfl ?_
        refine am_goto rfl ?_
        first
          | (rw [bi_0 h12, Bool.false_and, cond_false] at k; simp only [nI_succ] at k; exact k)
          | (rw [bi_1 h12, decide_eq_false (Int32.not_lt.mpr h25), Bool.and_false, cond_false] at k; simp only [nI_succ] at k; exact k)
          | (rw [bi_1 h12, decide_eq_true (Int32.not_le.mp h25), Bool.and_self, cond_true] at k; simp only [nI_succ] at k; exact am_Meq rfl k)
      · refine am_aload_n rfl rfl rfl ?_
        refine am_get rfl rfl rfl ?_
        refine am_iconst rfl ?_
        refine am_aald (k8 := 0) rfl rfl (Or.inl rfl) rfl (by decide) (by decide) rfl ?_
        refine am_iload_n rfl rfl ?_
        refine am_aload_n rfl rfl rfl ?_
        refine am_get rfl rfl rfl ?_
        refine am_iconst rfl ?_
        refine am_aald (k8 := 0) rfl rfl (Or.inl rfl) rfl (by decide) (by decide) rfl ?_
        refine am_iload_n rfl rfl ?_
        refine am_iald rfl rfl rfl (by omega) (by decide) ?_
        refine am_iast rfl rfl rfl (by omega) (by decide) ?_
        refine am_aload_n rfl rfl rfl ?_
        refine am_get rfl rfl rfl ?_
        refine am_iconst rfl ?_
        refine am_aald (k8 := 1) rfl rfl (Or.inl rfl) rfl (by decide) (by decide) rfl ?_
        refine am_iload_n rfl rfl ?_
        refine am_aload_n rfl rfl rfl ?_
        refine am_get rfl rfl rfl ?_
        refine am_iconst rfl ?_
        refine am_aald (k8 := 1) rfl rfl (Or.inl rfl) rfl (by decide) (by decide) rfl ?_
        refine am_iload_n rfl rfl ?_
        refine am_iald rfl rfl rfl (by omega) (by decide) ?_
        refine am_iconst rfl ?_
        refine am_iadd rfl ?_
        refine am_iast rfl rfl rfl (by omega) (by decide) ?_
        refine am_aload_n rfl rfl rfl ?_
        refine am_get rfl rfl rfl ?_
        refine am_iconst rfl ?_
        refine am_aald (k8 := 2) rfl rfl (Or.inl rfl) rfl (by decide) (by decide) rfl ?_
        refine am_iload_n rfl rfl ?_
        refine am_iload_n rfl rfl ?_
        refine am_iast rfl rfl rfl (by omega) (by decide) ?_
        refine am_iinc rfl rfl ?_
        refine am_goto rfl ?_
        first
          | (rw [bi_0 h12, Bool.false_and, cond_false] at k; simp only [nI_succ] at k; exact k)
          | (rw [bi_1 h12, decide_eq_false (Int32.not_lt.mpr h25), Bool.and_false, cond_false] at k; simp only [nI_succ] at k; exact k)
          | (rw [bi_1 h12, decide_eq_true (Int32.not_le.mp h25), Bool.and_self, cond_true] at k; simp only [nI_succ] at k; exact am_Meq rfl k)
  · have A : Ag S (itr (lrn1 E x) n S) := Ag.itr (lrn1_ag x) n S
    generalize itr (lrn1 E x) n S = S1 at A ⊢
    have N1 := N.ag A
    refine am_iload_n rfl rfl ?_
    refine am_aload_n rfl rfl rfl ?_
    refine am_get rfl rfl rfl ?_
    refine am_get rfl rfl rfl ?_
    refine am_icmp_ge rfl (fun _ => ?_) (fun h => absurd (nd_ge N1.1 N.2.1) h)
    exact am_return rfl ⟨rfl, rfl⟩
/-- Least.change() -/
theorem s_chg0 (N : NetIs S n E)  : AW g (d + 2) 0 0 84 0 (am_L0 84 [.ref 30, .ref 1]) [] (mem ch S) (am_is none (mem ch (itr (lrn E n) n S))) := by
  have hn := N.2.1
  refine am_iconst rfl ?_
  refine am_istore_n rfl ?_
  refine am_Meq (M' := mem ch (itr (lrn E n) 0 S)) rfl ?_
  show AW g (d + 2) 0 0 84 2 [some (.ref 30), some (.ref 1), some (.int (nI 0))] [] _ _
  refine am_for (n) (fun v => [some (.ref 30), some (.ref 1), some (.int (nI v))]) (fun v => mem ch (itr (lrn E n) v S)) (fun v hv k => ?_) ?_ n 0 (by omega)
  · rw [itr_s] at k
    have A : Ag S (itr (lrn E n) v S) := Ag.itr lrn_ag v S
    generalize itr (lrn E n) v S = S1 at A k ⊢
    have N1 := N.ag A
    refine am_iload_n rfl rfl ?_
    refine am_aload_n rfl rfl rfl ?_
    refine am_get rfl rfl rfl ?_
    refine am_get rfl rfl rfl ?_
    refine am_icmp_ge rfl (fun h => absurd h (nd_lt N1.1 N.2.1 hv)) (fun _ => ?_)
    refine am_aload_n rfl rfl rfl ?_
    refine am_iload_n rfl rfl ?_
    refine am_Sx [.ref 1, .int (nI v)] rfl rfl rfl rfl (s_learn (d := d) N1 v (by omega)) ?_
    refine am_iinc rfl rfl ?_
    refine am_goto rfl ?_
    simp only [nI_succ] at k
    exact k
  · have A : Ag S (itr (lrn E n) n S) := Ag.itr lrn_ag n S
    generalize itr (lrn E n) n S = S1 at A ⊢
    have N1 := N.ag A
    refine am_iload_n rfl rfl ?_
    refine am_aload_n rfl rfl rfl ?_
    refine am_get rfl rfl rfl ?_
    refine am_get rfl rfl rfl ?_
    refine am_icmp_ge rfl (fun _ => ?_) (fun h => absurd (nd_ge N1.1 N.2.1) h)
    exact am_return rfl ⟨rfl, rfl⟩
/-- Ways.shorten(v) -/
def srt1 (E : Nat → Nat → Option Nat) (v u : Nat) (S : am_S0) : am_S0 := match E v u with
  | none => S
  | some e => bif decide (S 24 u = -1) then S else bif decide (S 20 v = -1) || decide (S 24 u + S 4 e < S 20 v) then w3 S v (S 24 u + S 4 e) (nI u) (S 1 6) else S
theorem srt1_ag (v u : Nat) (S : am_S0) : Ag S (srt1 E v u S) := by
  unfold srt1
  cases E v u with
  | none => exact Ag.rf
  | some e =>
    show Ag S (bif _ then _ else bif _ then _ else _)
    cases decide (S 24 u = -1)
    · cases decide (S 20 v = -1) || decide (S 24 u + S 4 e < S 20 v)
      · exact Ag.rf
      · exact Ag.w3
    · exact Ag.rf
def srt (E : Nat → Nat → Option Nat) (n v : Nat) (S : am_S0) : am_S0 := itr (srt1 E v) n S
theorem srt_ag (v : Nat) (S : am_S0) : Ag S (srt E n v S) := Ag.itr (srt1_ag v) n S
theorem isS_none {o : Option Nat} (h : o.isSome = false) : o = none := by cases o; rfl; cases h
theorem isS_some {o : Option Nat} (h : o.isSome = true) : ∃ e, o = some e := by cases o; cases h; exact ⟨_, rfl⟩
theorem s_shorten (N : NetIs S n E) (Es : ∀ u w, E u w = E w u) (x : Nat) (hx : x < 12) : AW g (d + 1) 0 0 94 0 (am_L0 94 [.ref 1, .int (nI x)]) [] (mem ch S) (am_is none (mem ch (srt E n x S))) := by
  have hn := N.2.1
  unfold srt
  refine am_iconst rfl ?_
  refine am_istore_n rfl ?_
  refine am_Meq (M' := mem ch (itr (srt1 E x) 0 S)) rfl ?_
  show AW g (d + 1) 0 0 94 2 [some (.ref 1), some (.int (nI x)), some (.int (nI 0)), none] [] _ _
  have key : ∀ y : Option Value, AW g (d + 1) 0 0 94 2 [some (.ref 1), some (.int (nI x)), some (.int (nI 0)), y] [] (mem ch (itr (srt1 E x) 0 S)) (am_is none (mem ch (itr (srt1 E x) n S))) := by
    intro y
    refine am_forS n (fun v y => [some (.ref 1), some (.int (nI x)), some (.int (nI v)), y]) (fun v _ => mem ch (itr (srt1 E x) v S)) (fun _ _ => True) (fun v y hv _ k => ?_) (fun y _ => ?_) n 0 y (by omega) trivial
    · rw [itr_s] at k
      have A : Ag S (itr (srt1 E x) v S) := Ag.itr (srt1_ag x) v S
      generalize itr (srt1 E x) v S = S1 at A k ⊢
      have N1 := N.ag A
      unfold srt1 at k
      refine am_iload_n rfl rfl ?_
      refine am_aload_n rfl rfl rfl ?_
      refine am_get rfl rfl rfl ?_
      refine am_get rfl rfl rfl ?_
      refine am_icmp_ge rfl (fun h => absurd h (nd_lt N1.1 N.2.1 hv)) (fun _ => ?_)
      refine am_aload_n rfl rfl rfl ?_
      refine am_get rfl rfl rfl ?_
      refine am_iload_n rfl rfl ?_
      refine am_iload_n rfl rfl ?_
      refine am_Vx [.int (nI x), .int (nI v)] rfl rfl rfl rfl rfl rfl (s_areN N1 x v hx (by omega)) ?_
      refine am_if_eq rfl (fun h12 => ?_) (fun h12 => ?_)
      · refine am_iinc rfl rfl ?_
        refine am_goto rfl ?_
        first
          | (rw [isS_none (bi_0 h12)] at k; have k := k y trivial; simp only [nI_succ] at k; exact k)
          | (obtain ⟨e9, he9⟩ := isS_some (bi_1 h12); rw [he9] at k; simp only [decide_eq_true h20, cond_true] at k; have k := k y trivial; simp only [nI_succ] at k; exact k)
          | (rw [he] at k; simp only [decide_eq_false h20, cond_false, decide_eq_false h42, decide_eq_false (Int32.not_lt.mpr h50), Bool.or_self] at k; have k := k (some (.int (S1 24 v + S1 4 e))) trivial; simp only [nI_succ] at k; exact k)
          | (rw [he] at k; simp only [decide_eq_false h20, cond_false, decide_eq_true h42, Bool.true_or, cond_true] at k; have k := k (some (.int (S1 24 v + S1 4 e))) trivial; simp only [nI_succ] at k; exact am_Meq rfl k)
          | (rw [he] at k; simp only [decide_eq_false h20, cond_false, decide_eq_true (Int32.not_le.mp h50), Bool.or_true, cond_true] at k; have k := k (some (.int (S1 24 v + S1 4 e))) trivial; simp only [nI_succ] at k; exact am_Meq rfl k)
      · refine am_aload_n rfl rfl rfl ?_
        refine am_get rfl rfl rfl ?_
        refine am_iconst rfl ?_
        refine am_aald (k8 := 0) rfl rfl (Or.inl rfl) rfl (by decide) (by decide) rfl ?_
        refine am_iload_n rfl rfl ?_
        refine am_iald rfl rfl rfl (by omega) (by decide) ?_
        refine am_iconst rfl ?_
        refine am_icmp_ne rfl (fun h20 => ?_) (fun h20 => ?_)
        · refine am_aload_n rfl rfl rfl ?_
          refine am_get rfl rfl rfl ?_
          refine am_iconst rfl ?_
          refine am_aald (k8 := 0) rfl rfl (Or.inl rfl) rfl (by decide) (by decide) rfl ?_
          refine am_iload_n rfl rfl ?_
          refine am_iald rfl rfl rfl (by omega) (by decide) ?_
          refine am_aload_n rfl rfl rfl ?_
          refine am_get rfl rfl rfl ?_
          refine am_iload_n rfl rfl ?_
          refine am_iload_n rfl rfl ?_
          obtain ⟨e, he⟩ := isS_some (bi_1 h12)
          refine am_Vx [.int (nI v), .int (nI x)] rfl rfl rfl rfl rfl rfl (s_weightB N1 v x e (by omega) hx ((Es v x).trans he)) ?_
          refine am_iadd rfl ?_
          refine am_istore_n rfl ?_
          refine am_aload_n rfl rfl rfl ?_
          refine am_get rfl rfl rfl ?_
          refine am_iconst rfl ?_
          refine am_aald (k8 := 0) rfl rfl (Or.inl rfl) rfl (by decide) (by decide) rfl ?_
          refine am_iload_n rfl rfl ?_
          refine am_iald rfl rfl rfl (by omega) (by decide) ?_
          refine am_iconst rfl ?_
          refine am_icmp_eq rfl (fun h42 => ?_) (fun h42 => ?_)
          · refine am_aload_n rfl rfl rfl ?_
            refine am_get rfl rfl rfl ?_
            refine am_iconst rfl ?_
            refine am_aald (k8 := 0) rfl rfl (Or.inl rfl) rfl (by decide) (by decide) rfl ?_
            refine am_iload_n rfl rfl ?_
            refine am_iload_n rfl rfl ?_
            refine am_iast rfl rfl rfl (by omega) (by decide) ?_
            refine am_aload_n rfl rfl rfl ?_
            refine am_get rfl rfl rfl ?_
            refine am_iconst rfl ?_
            refine am_aald (k8 := 1) rfl rfl (Or.inl rfl) rfl (by decide) (by decide) rfl ?_
            refine am_iload_n rfl rfl ?_
            refine am_iload_n rfl rfl ?_
            refine am_iast rfl rfl rfl (by omega) (by decide) ?_
            refine am_aload_n rfl rfl rfl ?_
            refine am_get rfl rfl rfl ?_
            refine am_iconst rfl ?_
            refine am_aald (k8 := 2) rfl rfl (Or.inl rfl) rfl (by decide) (by decide) rfl ?_
            refine am_iload_n rfl rfl ?_
            refine am_aload_n rfl rfl rfl ?_
            refine am_get rfl rfl rfl ?_
            refine am_iast rfl rfl rfl (by omega) (by decide) ?_
            refine am_iinc rfl rfl ?_
            refine am_goto rfl ?_
            first
              | (rw [isS_none (bi_0 h12)] at k; have k := k y trivial; simp only [nI_succ] at k; exact k)
              | (obtain ⟨e9, he9⟩ := isS_some (bi_1 h12); rw [he9] at k; simp only [decide_eq_true h20, cond_true] at k; have k := k y trivial; simp only [nI_succ] at k; exact k)
              | (rw [he] at k; simp only [decide_eq_false h20, cond_false, decide_eq_false h42, decide_eq_false (Int32.not_lt.mpr h50), Bool.or_self] at k; have k := k (some (.int (S1 24 v + S1 4 e))) trivial; simp only [nI_succ] at k; exact k)
              | (rw [he] at k; simp only [decide_eq_false h20, cond_false, decide_eq_true h42, Bool.true_or, cond_true] at k; have k := k (some (.int (S1 24 v + S1 4 e))) trivial; simp only [nI_succ] at k; exact am_Meq rfl k)
              | (rw [he] at k; simp only [decide_eq_false h20, cond_false, decide_eq_true (Int32.not_le.mp h50), Bool.or_true, cond_true] at k; have k := k (some (.int (S1 24 v + S1 4 e))) trivial; simp only [nI_succ] at k; exact am_Meq rfl k)
          · refine am_iload_n rfl rfl ?_
            refine am_aload_n rfl rfl rfl ?_
            refine am_get rfl rfl rfl ?_
            refine am_iconst rfl ?_
            refine am_aald (k8 := 0) rfl rfl (Or.inl rfl) rfl (by decide) (by decide) rfl ?_
            refine am_iload_n rfl rfl ?_
            refine am_iald rfl rfl rfl (by omega) (by decide) ?_
            refine am_icmp_ge rfl (fun h50 => ?_) (fun h50 => ?_)
            · refine am_iinc rfl rfl ?_
              refine am_goto rfl ?_
              first
                | (rw [isS_none (bi_0 h12)] at k; have k := k y trivial; simp only [nI_succ] at k; exact k)
                | (obtain ⟨e9, he9⟩ := isS_some (bi_1 h12); rw [he9] at k; simp only [decide_eq_true h20, cond_true] at k; have k := k y trivial; simp only [nI_succ] at k; exact k)
                | (rw [he] at k; simp only [decide_eq_false h20, cond_false, decide_eq_false h42, decide_eq_false (Int32.not_lt.mpr h50), Bool.or_self] at k; have k := k (some (.int (S1 24 v + S1 4 e))) trivial; simp only [nI_succ] at k; exact k)
                | (rw [he] at k; simp only [decide_eq_false h20, cond_false, decide_eq_true h42, Bool.true_or, cond_true] at k; have k := k (some (.int (S1 24 v + S1 4 e))) trivial; simp only [nI_succ] at k; exact am_Meq rfl k)
                | (rw [he] at k; simp only [decide_eq_false h20, cond_false, decide_eq_true (Int32.not_le.mp h50), Bool.or_true, cond_true] at k; have k := k (some (.int (S1 24 v + S1 4 e))) trivial; simp only [nI_succ] at k; exact am_Meq rfl k)
            · refine am_aload_n rfl rfl rfl ?_
              refine am_get rfl rfl rfl ?_
              refine am_iconst rfl ?_
              refine am_aald (k8 := 0) rfl rfl (Or.inl rfl) rfl (by decide) (by decide) rfl ?_
              refine am_iload_n rfl rfl ?_
              refine am_iload_n rfl rfl ?_
              refine am_iast rfl rfl rfl (by omega) (by decide) ?_
              refine am_aload_n rfl rfl rfl ?_
              refine am_get rfl rfl rfl ?_
              refine am_iconst rfl ?_
              refine am_aald (k8 := 1) rfl rfl (Or.inl rfl) rfl (by decide) (by decide) rfl ?_
              refine am_iload_n rfl rfl ?_
              refine am_iload_n rfl rfl ?_
              refine am_iast rfl rfl rfl (by omega) (by decide) ?_
              refine am_aload_n rfl rfl rfl ?_
              refine am_get rfl rfl rfl ?_
              refine am_iconst rfl ?_
              refine am_aald (k8 := 2) rfl rfl (Or.inl rfl) rfl (by decide) (by decide) rfl ?_
              refine am_iload_n rfl rfl ?_
              refine am_aload_n rfl rfl rfl ?_
              refine am_get rfl rfl rfl ?_
              refine am_iast rfl rfl rfl (by omega) (by decide) ?_
              refine am_iinc rfl rfl ?_
              refine am_goto rfl ?_
              first
                | (rw [isS_none (bi_0 h12)] at k; have k := k y trivial; simp only [nI_succ] at k; exact k)
                | (obtain ⟨e9, he9⟩ := isS_some (bi_1 h12); rw [he9] at k; simp only [decide_eq_true h20, cond_true] at k; have k := k y trivial; simp only [nI_succ] at k; exact k)
                | (rw [he] at k; simp only [decide_eq_false h20, cond_false, decide_eq_false h42, decide_eq_false (Int32.not_lt.mpr h50), Bool.or_self] at k; have k := k (some (.int (S1 24 v + S1 4 e))) trivial; simp only [nI_succ] at k; exact k)
                | (rw [he] at k; simp only [decide_eq_false h20, cond_false, decide_eq_true h42, Bool.true_or, cond_true] at k; have k := k (some (.int (S1 24 v + S1 4 e))) trivial; simp only [nI_succ] at k; exact am_Meq rfl k)
                | (rw [he] at k; simp only [decide_eq_false h20, cond_false, decide_eq_true (Int32.not_le.mp h50), Bool.or_true, cond_true] at k; have k := k (some (.int (S1 24 v + S1 4 e))) trivial; simp only [nI_succ] at k; exact am_Meq rfl k)
        · refine am_goto rfl ?_
          refine am_iinc rfl rfl ?_
          refine am_goto rfl ?_
          first
            | (rw [isS_none (bi_0 h12)] at k; have k := k y trivial; simp only [nI_succ] at k; exact k)
            | (obtain ⟨e9, he9⟩ := isS_some (bi_1 h12); rw [he9] at k; simp only [decide_eq_true h20, cond_true] at k; have k := k y trivial; simp only [nI_succ] at k; exact k)
            | (rw [he] at k; simp only [decide_eq_false h20, cond_false, decide_eq_false h42, decide_eq_false (Int32.not_lt.mpr h50), Bool.or_self] at k; have k := k (some (.int (S1 24 v + S1 4 e))) trivial; simp only [nI_succ] at k; exact k)
            | (rw [he] at k; simp only [decide_eq_false h20, cond_false, decide_eq_true h42, Bool.true_or, cond_true] at k; have k := k (some (.int (S1 24 v + S1 4 e))) trivial; simp only [nI_succ] at k; exact am_Meq rfl k)
            | (rw [he] at k; simp only [decide_eq_false h20, cond_false, decide_eq_true (Int32.not_le.mp h50), Bool.or_true, cond_true] at k; have k := k (some (.int (S1 24 v + S1 4 e))) trivial; simp only [nI_succ] at k; exact am_Meq rfl k)
    · have A : Ag S (itr (srt1 E x) n S) := Ag.itr (srt1_ag x) n S
      generalize itr (srt1 E x) n S = S1 at A ⊢
      have N1 := N.ag A
      refine am_iload_n rfl rfl ?_
      refine am_aload_n rfl rfl rfl ?_
      refine am_get rfl rfl rfl ?_
      refine am_get rfl rfl rfl ?_
      refine am_icmp_ge rfl (fun _ => ?_) (fun h => absurd (nd_ge N1.1 N.2.1) h)
      exact am_return rfl ⟨rfl, rfl⟩
  exact key none
/-- Ways.change() -/
theorem s_chg1 (N : NetIs S n E) (Es : ∀ u w, E u w = E w u) : AW g (d + 2) 0 0 93 0 (am_L0 93 [.ref 31, .ref 1]) [] (mem ch S) (am_is none (mem ch (itr (srt E n) n S))) := by
  have hn := N.2.1
  refine am_iconst rfl ?_
  refine am_istore_n rfl ?_
  refine am_Meq (M' := mem ch (itr (srt E n) 0 S)) rfl ?_
  show AW g (d + 2) 0 0 93 2 [some (.ref 31), some (.ref 1), some (.int (nI 0))] [] _ _
  refine am_for (n) (fun v => [some (.ref 31), some (.ref 1), some (.int (nI v))]) (fun v => mem ch (itr (srt E n) v S)) (fun v hv k => ?_) ?_ n 0 (by omega)
  · rw [itr_s] at k
    have A : Ag S (itr (srt E n) v S) := Ag.itr srt_ag v S
    generalize itr (srt E n) v S = S1 at A k ⊢
    have N1 := N.ag A
    refine am_iload_n rfl rfl ?_
    refine am_aload_n rfl rfl rfl ?_
    refine am_get rfl rfl rfl ?_
    refine am_get rfl rfl rfl ?_
    refine am_icmp_ge rfl (fun h => absurd h (nd_lt N1.1 N.2.1 hv)) (fun _ => ?_)
    refine am_aload_n rfl rfl rfl ?_
    refine am_iload_n rfl rfl ?_
    refine am_Sx [.ref 1, .int (nI v)] rfl rfl rfl rfl (s_shorten (d := d) N1 Es v (by omega)) ?_
    refine am_iinc rfl rfl ?_
    refine am_goto rfl ?_
    simp only [nI_succ] at k
    exact k
  · have A : Ag S (itr (srt E n) n S) := Ag.itr srt_ag n S
    generalize itr (srt E n) n S = S1 at A ⊢
    have N1 := N.ag A
    refine am_iload_n rfl rfl ?_
    refine am_aload_n rfl rfl rfl ?_
    refine am_get rfl rfl rfl ?_
    refine am_get rfl rfl rfl ?_
    refine am_icmp_ge rfl (fun _ => ?_) (fun h => absurd (nd_ge N1.1 N.2.1) h)
    exact am_return rfl ⟨rfl, rfl⟩
/-- Chosen.wins(v) -/
def win (S : am_S0) (E : Nat → Nat → Option Nat) (n v : Nat) : Bool := !anyb (fun u => (E v u).isSome && (decide (S 24 u = 0) && !decide (S 3 u < S 3 v))) n
theorem s_wins (N : NetIs S n E) (x : Nat) (hx : x < 12) : AW g (d + 1) 0 0 79 0 (am_L0 79 [.ref 1, .int (nI x)]) [] (mem ch S) (am_is (some (.int (bi (win S E n x)))) (mem ch S)) := by
  have hn := N.2.1
  unfold win
  refine am_iconst rfl ?_
  refine am_istore_n rfl ?_
  show AW g (d + 1) 0 0 79 2 [some (.ref 1), some (.int (nI x)), some (.int (nI 0))] [] (mem ch S) _
  refine am_forI (n) (fun v => [some (.ref 1), some (.int (nI x)), some (.int (nI v))]) (fun v => mem ch S) (fun v => ∀ u, u < v → ((E x u).isSome && (decide (S 24 u = 0) && !decide (S 3 u < S 3 x))) = false) (fun v hv hi k => ?_) (fun hi => ?_) n 0 (by omega) (fun u h => absurd h (Nat.not_lt_zero _))
  · refine am_iload_n rfl rfl ?_
    refine am_aload_n rfl rfl rfl ?_
    refine am_get rfl rfl rfl ?_
    refine am_get rfl rfl rfl ?_
    refine am_icmp_ge rfl (fun h => absurd h (nd_lt N.1 N.2.1 hv)) (fun _ => ?_)
    refine am_aload_n rfl rfl rfl ?_
    refine am_get rfl rfl rfl ?_
    refine am_iload_n rfl rfl ?_
    refine am_iload_n rfl rfl ?_
    refine am_Vx [.int (nI x), .int (nI v)] rfl rfl rfl rfl rfl rfl (s_areN N x v hx (by omega)) ?_
    refine am_if_eq rfl (fun h12 => ?_) (fun h12 => ?_)
    · refine am_iinc rfl rfl ?_
      refine am_goto rfl ?_
      have k := k (fun u hu => by
        by_cases e : u = v
        · subst e
          first | (rw [bi_0 h12, Bool.false_and]; done) | (rw [decide_eq_false h19, Bool.false_and, Bool.and_false]; done) | (rw [decide_eq_true h30, Bool.not_true, Bool.and_false, Bool.and_false]; done)
        · exact hi u (by omega))
      simp only [nI_succ] at k
      exact k
    · refine am_aload_n rfl rfl rfl ?_
      refine am_get rfl rfl rfl ?_
      refine am_iconst rfl ?_
      refine am_aald (k8 := 0) rfl rfl (Or.inl rfl) rfl (by decide) (by decide) rfl ?_
      refine am_iload_n rfl rfl ?_
      refine am_iald rfl rfl rfl (by omega) (by decide) ?_
      refine am_if_ne rfl (fun h19 => ?_) (fun h19 => ?_)
      · refine am_iinc rfl rfl ?_
        refine am_goto rfl ?_
        have k := k (fun u hu => by
          by_cases e : u = v
          · subst e
            first | (rw [bi_0 h12, Bool.false_and]; done) | (rw [decide_eq_false h19, Bool.false_and, Bool.and_false]; done) | (rw [decide_eq_true h30, Bool.not_true, Bool.and_false, Bool.and_false]; done)
          · exact hi u (by omega))
        simp only [nI_succ] at k
        exact k
      · refine am_aload_n rfl rfl rfl ?_
        refine am_get rfl rfl rfl ?_
        refine am_get rfl rfl rfl ?_
        refine am_iload_n rfl rfl ?_
        refine am_iald rfl rfl rfl (by omega) (by decide) ?_
        refine am_aload_n rfl rfl rfl ?_
        refine am_get rfl rfl rfl ?_
        refine am_get rfl rfl rfl ?_
        refine am_iload_n rfl rfl ?_
        refine am_iald rfl rfl rfl (by omega) (by decide) ?_
        refine am_icmp_lt rfl (fun h30 => ?_) (fun h30 => ?_)
        · refine am_iinc rfl rfl ?_
          refine am_goto rfl ?_
          have k := k (fun u hu => by
            by_cases e : u = v
            · subst e
              first | (rw [bi_0 h12, Bool.false_and]; done) | (rw [decide_eq_false h19, Bool.false_and, Bool.and_false]; done) | (rw [decide_eq_true h30, Bool.not_true, Bool.and_false, Bool.and_false]; done)
            · exact hi u (by omega))
          simp only [nI_succ] at k
          exact k
        · refine am_iconst rfl ?_
          refine am_ireturn rfl (fun _ => by decide) ⟨?_, rfl⟩
          rw [show anyb (fun u => (E x u).isSome && (decide (S 24 u = 0) && !decide (S 3 u < S 3 x))) n = true from anyb_true.mpr ⟨v, hv, by rw [bi_1 h12, decide_eq_true h19, decide_eq_false h30]; rfl⟩]
          rfl
  · refine am_iload_n rfl rfl ?_
    refine am_aload_n rfl rfl rfl ?_
    refine am_get rfl rfl rfl ?_
    refine am_get rfl rfl rfl ?_
    refine am_icmp_ge rfl (fun _ => ?_) (fun h => absurd (nd_ge N.1 N.2.1) h)
    refine am_iconst rfl ?_
    refine am_ireturn rfl (fun _ => by decide) ⟨?_, rfl⟩
    rw [anyb_false hi]
    rfl
/-- Chosen.hasWinnerBeside(v) -/
def bes (S : am_S0) (E : Nat → Nat → Option Nat) (n v : Nat) : Bool := anyb (fun u => (E v u).isSome && (decide (S 24 u = 0) && win S E n u)) n
theorem s_beside (N : NetIs S n E) (x : Nat) (hx : x < 12) : AW g (d + 2) 0 0 80 0 (am_L0 80 [.ref 1, .int (nI x)]) [] (mem ch S) (am_is (some (.int (bi (bes S E n x)))) (mem ch S)) := by
  have hn := N.2.1
  unfold bes
  refine am_iconst rfl ?_
  refine am_istore_n rfl ?_
  show AW g (d + 2) 0 0 80 2 [some (.ref 1), some (.int (nI x)), some (.int (nI 0))] [] (mem ch S) _
  refine am_forI (n) (fun v => [some (.ref 1), some (.int (nI x)), some (.int (nI v))]) (fun v => mem ch S) (fun v => ∀ u, u < v → ((E x u).isSome && (decide (S 24 u = 0) && win S E n u)) = false) (fun v hv hi k => ?_) (fun hi => ?_) n 0 (by omega) (fun u h => absurd h (Nat.not_lt_zero _))
  · refine am_iload_n rfl rfl ?_
    refine am_aload_n rfl rfl rfl ?_
    refine am_get rfl rfl rfl ?_
    refine am_get rfl rfl rfl ?_
    refine am_icmp_ge rfl (fun h => absurd h (nd_lt N.1 N.2.1 hv)) (fun _ => ?_)
    refine am_aload_n rfl rfl rfl ?_
    refine am_get rfl rfl rfl ?_
    refine am_iload_n rfl rfl ?_
    refine am_iload_n rfl rfl ?_
    refine am_Vx [.int (nI x), .int (nI v)] rfl rfl rfl rfl rfl rfl (s_areN N x v hx (by omega)) ?_
    refine am_if_eq rfl (fun h12 => ?_) (fun h12 => ?_)
    · refine am_iinc rfl rfl ?_
      refine am_goto rfl ?_
      have k := k (fun u hu => by
        by_cases e : u = v
        · subst e
          first | (rw [bi_0 h12, Bool.false_and]; done) | (rw [decide_eq_false h19, Bool.false_and, Bool.and_false]; done) | (rw [bi_0 h23, Bool.and_false, Bool.and_false]; done)
        · exact hi u (by omega))
      simp only [nI_succ] at k
      exact k
    · refine am_aload_n rfl rfl rfl ?_
      refine am_get rfl rfl rfl ?_
      refine am_iconst rfl ?_
      refine am_aald (k8 := 0) rfl rfl (Or.inl rfl) rfl (by decide) (by decide) rfl ?_
      refine am_iload_n rfl rfl ?_
      refine am_iald rfl rfl rfl (by omega) (by decide) ?_
      refine am_if_ne rfl (fun h19 => ?_) (fun h19 => ?_)
      · refine am_iinc rfl rfl ?_
        refine am_goto rfl ?_
        have k := k (fun u hu => by
          by_cases e : u = v
          · subst e
            first | (rw [bi_0 h12, Bool.false_and]; done) | (rw [decide_eq_false h19, Bool.false_and, Bool.and_false]; done) | (rw [bi_0 h23, Bool.and_false, Bool.and_false]; done)
          · exact hi u (by omega))
        simp only [nI_succ] at k
        exact k
      · refine am_aload_n rfl rfl rfl ?_
        refine am_iload_n rfl rfl ?_
        refine am_Sx [.ref 1, .int (nI v)] rfl rfl rfl rfl (s_wins (d := d) N v (by omega)) ?_
        refine am_if_eq rfl (fun h23 => ?_) (fun h23 => ?_)
        · refine am_iinc rfl rfl ?_
          refine am_goto rfl ?_
          have k := k (fun u hu => by
            by_cases e : u = v
            · subst e
              first | (rw [bi_0 h12, Bool.false_and]; done) | (rw [decide_eq_false h19, Bool.false_and, Bool.and_false]; done) | (rw [bi_0 h23, Bool.and_false, Bool.and_false]; done)
            · exact hi u (by omega))
          simp only [nI_succ] at k
          exact k
        · refine am_iconst rfl ?_
          refine am_ireturn rfl (fun _ => by decide) ⟨?_, rfl⟩
          rw [show anyb (fun u => (E x u).isSome && (decide (S 24 u = 0) && win S E n u)) n = true from anyb_true.mpr ⟨v, hv, by rw [bi_1 h12, decide_eq_true h19, bi_1 h23]; rfl⟩]
          rfl
  · refine am_iload_n rfl rfl ?_
    refine am_aload_n rfl rfl rfl ?_
    refine am_get rfl rfl rfl ?_
    refine am_get rfl rfl rfl ?_
    refine am_icmp_ge rfl (fun _ => ?_) (fun h => absurd (nd_ge N.1 N.2.1) h)
    refine am_iconst rfl ?_
    refine am_ireturn rfl (fun _ => by decide) ⟨?_, rfl⟩
    rw [anyb_false hi]
    rfl
/-- Chosen.decide(v) -/
def dcd (E : Nat → Nat → Option Nat) (n v : Nat) (S : am_S0) : am_S0 := bif win S E n v then w2 S v 1 (S 1 6) else bif bes S E n v then w2 S v 2 (S 1 6) else S
theorem s_decide (N : NetIs S n E) (x : Nat) (hx : x < 12) : AW g (d + 3) 0 0 78 0 (am_L0 78 [.ref 1, .int (nI x)]) [] (mem ch S) (am_is none (mem ch (dcd E n x S))) := by
  unfold dcd
  refine am_aload_n rfl rfl rfl ?_
  refine am_iload_n rfl rfl ?_
  refine am_Sx [.ref 1, .int (nI x)] rfl rfl rfl rfl (s_wins (d := d + 1) N x hx) ?_
  refine am_if_eq rfl (fun h3 => ?_) (fun h3 => ?_)
  · refine am_aload_n rfl rfl rfl ?_
    refine am_iload_n rfl rfl ?_
    refine am_Sx [.ref 1, .int (nI x)] rfl rfl rfl rfl (s_beside (d := d) N x hx) ?_
    refine am_if_eq rfl (fun h23 => ?_) (fun h23 => ?_)
    · refine am_return rfl ⟨rfl, ?_⟩
      first
        | (rw [bi_1 h3]; rfl)
        | (rw [bi_0 h3, bi_1 h23]; rfl)
        | (rw [bi_0 h3, bi_0 h23]; rfl)
    · refine am_aload_n rfl rfl rfl ?_
      refine am_get rfl rfl rfl ?_
      refine am_iconst rfl ?_
      refine am_aald (k8 := 0) rfl rfl (Or.inl rfl) rfl (by decide) (by decide) rfl ?_
      refine am_iload_n rfl rfl ?_
      refine am_iconst rfl ?_
      refine am_iast rfl rfl rfl hx (by decide) ?_
      refine am_aload_n rfl rfl rfl ?_
      refine am_get rfl rfl rfl ?_
      refine am_iconst rfl ?_
      refine am_aald (k8 := 1) rfl rfl (Or.inl rfl) rfl (by decide) (by decide) rfl ?_
      refine am_iload_n rfl rfl ?_
      refine am_aload_n rfl rfl rfl ?_
      refine am_get rfl rfl rfl ?_
      refine am_iast rfl rfl rfl hx (by decide) ?_
      refine am_return rfl ⟨rfl, ?_⟩
      first
        | (rw [bi_1 h3]; rfl)
        | (rw [bi_0 h3, bi_1 h23]; rfl)
        | (rw [bi_0 h3, bi_0 h23]; rfl)
  · refine am_aload_n rfl rfl rfl ?_
    refine am_get rfl rfl rfl ?_
    refine am_iconst rfl ?_
    refine am_aald (k8 := 0) rfl rfl (Or.inl rfl) rfl (by decide) (by decide) rfl ?_
    refine am_iload_n rfl rfl ?_
    refine am_iconst rfl ?_
    refine am_iast rfl rfl rfl hx (by decide) ?_
    refine am_aload_n rfl rfl rfl ?_
    refine am_get rfl rfl rfl ?_
    refine am_iconst rfl ?_
    refine am_aald (k8 := 1) rfl rfl (Or.inl rfl) rfl (by decide) (by decide) rfl ?_
    refine am_iload_n rfl rfl ?_
    refine am_aload_n rfl rfl rfl ?_
    refine am_get rfl rfl rfl ?_
    refine am_iast rfl rfl rfl hx (by decide) ?_
    refine am_goto rfl ?_
    refine am_return rfl ⟨rfl, ?_⟩
    first
      | (rw [bi_1 h3]; rfl)
      | (rw [bi_0 h3, bi_1 h23]; rfl)
      | (rw [bi_0 h3, bi_0 h23]; rfl)
def chg4 (E : Nat → Nat → Option Nat) (n v : Nat) (S : am_S0) : am_S0 := bif decide (S 24 v = 0) then dcd E n v S else S
theorem dcd_ag (v : Nat) (S : am_S0) : Ag S (dcd E n v S) := by
  unfold dcd
  cases win S E n v
  · cases bes S E n v
    · exact Ag.rf
    · exact Ag.w2
  · exact Ag.w2
theorem chg4_ag (v : Nat) (S : am_S0) : Ag S (chg4 E n v S) := by
  unfold chg4
  cases decide (S 24 v = 0)
  · exact Ag.rf
  · exact dcd_ag v S
/-- Chosen.change() -/
theorem s_chg4 (N : NetIs S n E)  : AW g (d + 4) 0 0 77 0 (am_L0 77 [.ref 34, .ref 1]) [] (mem ch S) (am_is none (mem ch (itr (chg4 E n) n S))) := by
  have hn := N.2.1
  refine am_iconst rfl ?_
  refine am_istore_n rfl ?_
  refine am_Meq (M' := mem ch (itr (chg4 E n) 0 S)) rfl ?_
  show AW g (d + 4) 0 0 77 2 [some (.ref 34), some (.ref 1), some (.int (nI 0))] [] _ _
  refine am_for (n) (fun v => [some (.ref 34), some (.ref 1), some (.int (nI v))]) (fun v => mem ch (itr (chg4 E n) v S)) (fun v hv k => ?_) ?_ n 0 (by omega)
  · rw [itr_s] at k
    have A : Ag S (itr (chg4 E n) v S) := Ag.itr chg4_ag v S
    generalize itr (chg4 E n) v S = S1 at A k ⊢
    have N1 := N.ag A
    refine am_iload_n rfl rfl ?_
    refine am_aload_n rfl rfl rfl ?_
    refine am_get rfl rfl rfl ?_
    refine am_get rfl rfl rfl ?_
    refine am_icmp_ge rfl (fun h => absurd h (nd_lt N1.1 N.2.1 hv)) (fun _ => ?_)
    refine am_aload_n rfl rfl rfl ?_
    refine am_get rfl rfl rfl ?_
    refine am_iconst rfl ?_
    refine am_aald (k8 := 0) rfl rfl (Or.inl rfl) rfl (by decide) (by decide) rfl ?_
    refine am_iload_n rfl rfl ?_
    refine am_iald rfl rfl rfl (by omega) (by decide) ?_
    refine am_if_ne rfl (fun h13 => ?_) (fun h13 => ?_)
    · refine am_iinc rfl rfl ?_
      refine am_goto rfl ?_
      unfold chg4 at k
      first
        | (rw [decide_eq_false h13, cond_false] at k; simp only [nI_succ] at k; exact k)
        | (rw [decide_eq_true h13, cond_true] at k; simp only [nI_succ] at k; exact k)
    · refine am_aload_n rfl rfl rfl ?_
      refine am_iload_n rfl rfl ?_
      refine am_Sx [.ref 1, .int (nI v)] rfl rfl rfl rfl (s_decide (d := d) N1 v (by omega)) ?_
      refine am_iinc rfl rfl ?_
      refine am_goto rfl ?_
      unfold chg4 at k
      first
        | (rw [decide_eq_false h13, cond_false] at k; simp only [nI_succ] at k; exact k)
        | (rw [decide_eq_true h13, cond_true] at k; simp only [nI_succ] at k; exact k)
  · have A : Ag S (itr (chg4 E n) n S) := Ag.itr chg4_ag n S
    generalize itr (chg4 E n) n S = S1 at A ⊢
    have N1 := N.ag A
    refine am_iload_n rfl rfl ?_
    refine am_aload_n rfl rfl rfl ?_
    refine am_get rfl rfl rfl ?_
    refine am_get rfl rfl rfl ?_
    refine am_icmp_ge rfl (fun _ => ?_) (fun h => absurd (nd_ge N1.1 N.2.1) h)
    exact am_return rfl ⟨rfl, rfl⟩
end CCHG
