/-! the model: letters, the end of a run, round, run, choose -/
def ltI (S : am_S0) (n q : Nat) (fa fb : Nat → Nat) (rt k r : Nat) : Int32 := match k with
  | 4 | 5 => 2 * nI (opn fa fb (S 47) q (nI r))
  | _ => smI (ltO S n q fa fb rt k r) n
def fns (S : am_S0) (n q : Nat) (fa fb : Nat → Nat) (rt k r : Nat) : Bool := match k with
  | 2 => !decide (nI r ≤ S 45 rt)
  | 3 => decide (nI r = 4)
  | 4 => !anyb (fun v => !mov (S 47) v (nI r)) n
  | 6 => !anyb (fun v => decide (S 47 v = nI r + 1)) n
  | _ => decide (ltI S n q fa fb rt k r = 0)
/-- what answers depend on -/
def Sta (S S1 : am_S0) : Prop := S1 41 = S 41 ∧ S1 42 = S 42 ∧ S1 43 = S 43 ∧ S1 45 = S 45 ∧ S1 46 = S 46 ∧ S1 47 = S 47
theorem Scr.sta {S S1 : am_S0} (h : Scr S S1) : Sta S S1 := ⟨h 41 (by decide) (by decide) (by decide), h 42 (by decide) (by decide) (by decide), h 43 (by decide) (by decide) (by decide), h 45 (by decide) (by decide) (by decide), h 46 (by decide) (by decide) (by decide), h 47 (by decide) (by decide) (by decide)⟩
section MM11
variable {g : am_G} {d : Nat} {ch : Option Nat} {S : am_S0} {n q : Nat} {fa fb : Nat → Nat}
variable {pr : Nat → Option Nat} {rk : Nat → Nat} {rt k r : Nat}
theorem ltO_sta {S1 : am_S0} (h : Sta S S1) : ltO S1 n q fa fb rt k r = ltO S n q fa fb rt k r := by
  obtain ⟨h1, h2, h3, h4, h5, h6⟩ := h
  unfold ltO
  rw [h1, h2, h3, h4, h6]
theorem ltI_sta {S1 : am_S0} (h : Sta S S1) : ltI S1 n q fa fb rt k r = ltI S n q fa fb rt k r := by
  have e := ltO_sta (n := n) (q := q) (fa := fa) (fb := fb) (rt := rt) (k := k) (r := r) h
  unfold ltI
  rw [e, h.2.2.2.2.2]
theorem fns_sta {S1 : am_S0} (h : Sta S S1) : fns S1 n q fa fb rt k r = fns S n q fa fb rt k r := by
  have e := ltI_sta (n := n) (q := q) (fa := fa) (fb := fb) (rt := rt) (k := k) (r := r) h
  unfold fns
  rw [e, h.2.2.2.1, h.2.2.2.2.2]
theorem hAf_sta {S1 : am_S0} {x s : Nat} (h : Sta S S1) : hAf S1 n q fa fb rt pr k x s r = hAf S n q fa fb rt pr k x s r := by
  obtain ⟨h1, h2, h3, h4, h5, h6⟩ := h
  unfold hAf
  rw [h1, h2, h3, h4, h5, h6]
theorem m_lettersIn (N : MN S n q fa fb) (M : MR S n q fa fb k rt r pr rk) : AW g (d + 4) 0 0 126 0 (am_L0 126 [.ref 38, .int (nI (r + 1))]) [] (mem ch S) (am_sc (ltI S n q fa fb rt k r) ch S) := by
  have hn := N.2.1
  have hk := M.2.1
  have hop : AW g (d + 4) 0 0 126 8 (am_L0 126 [.ref 38, .int (nI (r + 1))]) [] (mem ch S) (am_sc (2 * nI (opn fa fb (S 47) q (nI r))) ch S) := by
    refine am_iconst rfl ?_
    refine am_aload_n rfl rfl rfl ?_
    refine am_iload_n rfl rfl ?_
    refine am_Vx [.int (nI (r + 1))] rfl rfl rfl rfl rfl rfl (m_open (d := d + 2) N (nI (r + 1))) ?_
    rw [nI_pred]
    refine am_imul rfl ?_
    exact am_ireturn rfl (fun h => absurd h (by decide)) ⟨rfl, S, Scr.rf, rfl⟩
  refine am_aload_n rfl rfl rfl ?_
  refine am_get rfl rfl rfl ?_
  rw [M.1]
  refine am_iconst rfl ?_
  refine am_icmp_eq rfl (fun h3 => ?_) (fun h3 => ?_)
  · have := (nI_eq (b := 4) (by omega) (by decide)).mp h3
    subst this
    exact hop
  · refine am_aload_n rfl rfl rfl ?_
    refine am_get rfl rfl rfl ?_
    rw [M.1]
    refine am_iconst rfl ?_
    refine am_icmp_ne rfl (fun h7 => ?_) (fun h7 => ?_)
    · have h4 : ¬ k = 4 := fun e => h3 (by rw [e]; rfl)
      have h5 : ¬ k = 5 := fun e => h7 (by rw [e]; rfl)
      have hsm9 : ltI S n q fa fb rt k r = smI (ltO S n q fa fb rt k r) n := by
        unfold ltI
        split
        · exact absurd rfl h4
        · exact absurd rfl h5
        · rfl
      refine am_iconst rfl ?_
      refine am_istore_n rfl ?_
      refine am_iconst rfl ?_
      refine am_istore_n rfl ?_
      show AW g _ 0 0 126 18 [some (.ref 38), some (.int (nI (r + 1))), some (.int (smI (ltO S n q fa fb rt k r) 0)), some (.int (nI 0))] [] _ _
      refine am_forS (n) (fun v S1 => [some (.ref 38), some (.int (nI (r + 1))), some (.int (smI (ltO S n q fa fb rt k r) v)), some (.int (nI v))]) (fun v S1 => mem ch S1) (fun v S1 => Scr S S1) (fun v S1 hv hi kl => ?_) (fun S1 hi => ?_) (n) 0 (S) (by omega) Scr.rf
      · refine am_iload_n rfl rfl ?_
        refine am_aload_n rfl rfl rfl ?_
        refine am_get rfl rfl rfl ?_
        refine am_icmp_ge rfl (fun h => absurd h (nm_lt (N.scr hi).1 hn hv)) (fun _ => ?_)
        refine am_iload_n rfl rfl ?_
        refine am_aload_n rfl rfl rfl ?_
        refine am_iload_n rfl rfl ?_
        refine am_iload_n rfl rfl ?_
        refine am_V [.int (nI v), .int (nI (r + 1))] rfl rfl rfl rfl rfl rfl (m_lettersOf (d := _) (N.scr hi) (M.scr hi) v hv) ?_
        rintro _ _ ⟨rfl, S2, hS2, rfl⟩ _
        rw [ltO_sta hi.sta]
        refine am_iadd rfl ?_
        refine am_istore_n rfl ?_
        refine am_iinc rfl rfl ?_
        refine am_goto rfl ?_
        simp only [nI_succ v] at kl
        exact kl S2 (hi.tr hS2)
      · refine am_iload_n rfl rfl ?_
        refine am_aload_n rfl rfl rfl ?_
        refine am_get rfl rfl rfl ?_
        refine am_icmp_ge rfl (fun _ => ?_) (fun h => absurd (nm_ge (N.scr hi).1 hn) h)
        refine am_iload_n rfl rfl ?_
        exact am_ireturn rfl (fun h => absurd h (by decide)) ⟨by rw [hsm9], S1, hi, rfl⟩
    · have := (nI_eq (b := 5) (by omega) (by decide)).mp h7
      subst this
      exact hop
theorem m_isFinished (N : MN S n q fa fb) (M : MR S n q fa fb k rt r pr rk) : AW g (d + 5) 0 0 124 0 (am_L0 124 [.ref 38]) [] (mem ch S) (am_sc (bi (fns S n q fa fb rt k r)) ch S) := by
  have hn := N.2.1
  match k, M with
  | 0, M =>
    refine am_iconst rfl ?_
    refine am_istore_n rfl ?_
    refine am_aload_n rfl rfl rfl ?_
    refine am_get rfl rfl rfl ?_
    rw [M.1]
    refine am_swOut rfl (Or.inl (by decide)) ?_
    refine am_aload_n rfl rfl rfl ?_
    refine am_aload_n rfl rfl rfl ?_
    refine am_get rfl rfl rfl ?_
    rw [M.2.2.1]
    refine am_iconst rfl ?_
    refine am_iadd rfl ?_
    rw [nI_1]
    refine am_V [.int (nI (r + 1))] rfl rfl rfl rfl rfl rfl (m_lettersIn (d := _) N M) ?_
    rintro _ _ ⟨rfl, S1, hS1, rfl⟩ _
    refine am_if_ne rfl (fun h => ?_) (fun h => ?_)
    · refine am_iconst rfl ?_
      refine am_ireturn rfl (fun _ => by decide) ⟨?_, S1, hS1, rfl⟩
      simp only [fns, decide_eq_false h, bi, cond_false]
    · refine am_iconst rfl ?_
      refine am_goto rfl ?_
      refine am_ireturn rfl (fun _ => by decide) ⟨?_, S1, hS1, rfl⟩
      simp only [fns, decide_eq_true h, bi, cond_true]
  | 1, M =>
    refine am_iconst rfl ?_
    refine am_istore_n rfl ?_
    refine am_aload_n rfl rfl rfl ?_
    refine am_get rfl rfl rfl ?_
    rw [M.1]
    refine am_swOut rfl (Or.inl (by decide)) ?_
    refine am_aload_n rfl rfl rfl ?_
    refine am_aload_n rfl rfl rfl ?_
    refine am_get rfl rfl rfl ?_
    rw [M.2.2.1]
    refine am_iconst rfl ?_
    refine am_iadd rfl ?_
    rw [nI_1]
    refine am_V [.int (nI (r + 1))] rfl rfl rfl rfl rfl rfl (m_lettersIn (d := _) N M) ?_
    rintro _ _ ⟨rfl, S1, hS1, rfl⟩ _
    refine am_if_ne rfl (fun h => ?_) (fun h => ?_)
    · refine am_iconst rfl ?_
      refine am_ireturn rfl (fun _ => by decide) ⟨?_, S1, hS1, rfl⟩
      simp only [fns, decide_eq_false h, bi, cond_false]
    · refine am_iconst rfl ?_
      refine am_goto rfl ?_
      refine am_ireturn rfl (fun _ => by decide) ⟨?_, S1, hS1, rfl⟩
      simp only [fns, decide_eq_true h, bi, cond_true]
  | 2, M =>
    refine am_iconst rfl ?_
    refine am_istore_n rfl ?_
    refine am_aload_n rfl rfl rfl ?_
    refine am_get rfl rfl rfl ?_
    rw [M.1]
    refine am_swIn (j := 0) rfl (by decide) (by decide) rfl ?_
    have hrt := M.2.2.2.2.1 (by decide)
    refine am_aload_n rfl rfl rfl ?_
    refine am_get rfl rfl rfl ?_
    rw [M.2.2.1]
    refine am_aload_n rfl rfl rfl ?_
    refine am_get rfl rfl rfl ?_
    refine am_aload_n rfl rfl rfl ?_
    refine am_get rfl rfl rfl ?_
    rw [hrt.2]
    refine am_iald (k8 := rt) rfl rfl rfl (by omega) (by decide) ?_
    refine am_icmp_le rfl (fun h12 => ?_) (fun h12 => ?_)
    · refine am_iconst rfl ?_
      refine am_ireturn rfl (fun _ => by decide) ⟨?_, S, Scr.rf, rfl⟩
      simp only [fns, decide_eq_true h12, Bool.not_true, Bool.not_false, bi, cond_true, cond_false]
    · refine am_iconst rfl ?_
      refine am_goto rfl ?_
      refine am_ireturn rfl (fun _ => by decide) ⟨?_, S, Scr.rf, rfl⟩
      simp only [fns, decide_eq_false h12, Bool.not_true, Bool.not_false, bi, cond_true, cond_false]
  | 3, M =>
    refine am_iconst rfl ?_
    refine am_istore_n rfl ?_
    refine am_aload_n rfl rfl rfl ?_
    refine am_get rfl rfl rfl ?_
    rw [M.1]
    refine am_swIn (j := 1) rfl (by decide) (by decide) rfl ?_
    refine am_aload_n rfl rfl rfl ?_
    refine am_get rfl rfl rfl ?_
    rw [M.2.2.1]
    refine am_iconst rfl ?_
    refine am_icmp_ne rfl (fun h20 => ?_) (fun h20 => ?_)
    · refine am_iconst rfl ?_
      refine am_ireturn rfl (fun _ => by decide) ⟨?_, S, Scr.rf, rfl⟩
      simp only [fns, decide_eq_false h20, bi, cond_true, cond_false]
    · refine am_iconst rfl ?_
      refine am_goto rfl ?_
      refine am_ireturn rfl (fun _ => by decide) ⟨?_, S, Scr.rf, rfl⟩
      simp only [fns, decide_eq_true h20, bi, cond_true, cond_false]
  | 4, M =>
    refine am_iconst rfl ?_
    refine am_istore_n rfl ?_
    refine am_aload_n rfl rfl rfl ?_
    refine am_get rfl rfl rfl ?_
    rw [M.1]
    refine am_swIn (j := 2) rfl (by decide) (by decide) rfl ?_
    refine am_iconst rfl ?_
    refine am_istore_n rfl ?_
    show AW g _ 0 0 124 27 [some (.ref 38), some (.int (bi (!anyb (fun u => !mov (S 47) u (nI r)) 0))), some (.int (nI 0))] [] _ _
    refine am_for (n) (fun v => [some (.ref 38), some (.int (bi (!anyb (fun u => !mov (S 47) u (nI r)) v))), some (.int (nI v))]) (fun v => mem ch S) (fun v hv kl => ?_) ?_ (n) 0 (by omega)
    · refine am_iload_n rfl rfl ?_
      refine am_aload_n rfl rfl rfl ?_
      refine am_get rfl rfl rfl ?_
      refine am_icmp_ge rfl (fun h => absurd h (nm_lt N.1 hn hv)) (fun _ => ?_)
      refine am_iload_n rfl rfl ?_
      refine am_if_eq rfl (fun h32 => ?_) (fun h32 => ?_)
      · refine am_iconst rfl ?_
        refine am_istore_n rfl ?_
        refine am_iinc rfl rfl ?_
        refine am_goto rfl ?_
        simp only [anyb, Bool.not_or, bi_0 h32, Bool.true_and, Bool.false_and, Bool.not_not, nI_succ] at kl
        exact kl
      · refine am_aload_n rfl rfl rfl ?_
        refine am_iload_n rfl rfl ?_
        refine am_aload_n rfl rfl rfl ?_
        refine am_get rfl rfl rfl ?_
        rw [M.2.2.1]
        refine am_Vx [.int (nI v), .int (nI r)] rfl rfl rfl rfl rfl rfl (m_isOver (d := _) v (by omega) (nI r)) ?_
        refine am_if_eq rfl (fun h38 => ?_) (fun h38 => ?_)
        · refine am_iconst rfl ?_
          refine am_istore_n rfl ?_
          refine am_iinc rfl rfl ?_
          refine am_goto rfl ?_
          simp only [anyb, Bool.not_or, bi_1 h32, bi_0 h38, Bool.true_and, Bool.false_and, Bool.not_not, nI_succ] at kl
          exact kl
        · refine am_iconst rfl ?_
          refine am_goto rfl ?_
          refine am_istore_n rfl ?_
          refine am_iinc rfl rfl ?_
          refine am_goto rfl ?_
          simp only [anyb, Bool.not_or, bi_1 h32, bi_1 h38, Bool.true_and, Bool.false_and, Bool.not_not, nI_succ] at kl
          exact kl
    · refine am_iload_n rfl rfl ?_
      refine am_aload_n rfl rfl rfl ?_
      refine am_get rfl rfl rfl ?_
      refine am_icmp_ge rfl (fun _ => ?_) (fun h => absurd (nm_ge N.1 hn) h)
      refine am_iload_n rfl rfl ?_
      refine am_ireturn rfl (fun _ => bi_01 _) ⟨?_, S, Scr.rf, rfl⟩
      rfl
  | 5, M =>
    refine am_iconst rfl ?_
    refine am_istore_n rfl ?_
    refine am_aload_n rfl rfl rfl ?_
    refine am_get rfl rfl rfl ?_
    rw [M.1]
    refine am_swIn (j := 3) rfl (by decide) (by decide) rfl ?_
    refine am_aload_n rfl rfl rfl ?_
    refine am_aload_n rfl rfl rfl ?_
    refine am_get rfl rfl rfl ?_
    rw [M.2.2.1]
    refine am_iconst rfl ?_
    refine am_iadd rfl ?_
    rw [nI_1]
    refine am_V [.int (nI (r + 1))] rfl rfl rfl rfl rfl rfl (m_lettersIn (d := _) N M) ?_
    rintro _ _ ⟨rfl, S1, hS1, rfl⟩ _
    refine am_if_ne rfl (fun h => ?_) (fun h => ?_)
    · refine am_iconst rfl ?_
      refine am_ireturn rfl (fun _ => by decide) ⟨?_, S1, hS1, rfl⟩
      simp only [fns, decide_eq_false h, bi, cond_false]
    · refine am_iconst rfl ?_
      refine am_goto rfl ?_
      refine am_ireturn rfl (fun _ => by decide) ⟨?_, S1, hS1, rfl⟩
      simp only [fns, decide_eq_true h, bi, cond_true]
  | 6, M =>
    refine am_iconst rfl ?_
    refine am_istore_n rfl ?_
    refine am_aload_n rfl rfl rfl ?_
    refine am_get rfl rfl rfl ?_
    rw [M.1]
    refine am_swIn (j := 4) rfl (by decide) (by decide) rfl ?_
    refine am_iconst rfl ?_
    refine am_istore_n rfl ?_
    show AW g _ 0 0 124 49 [some (.ref 38), some (.int (bi (!anyb (fun u => decide (S 47 u = nI r + 1)) 0))), some (.int (nI 0))] [] _ _
    refine am_for (n) (fun v => [some (.ref 38), some (.int (bi (!anyb (fun u => decide (S 47 u = nI r + 1)) v))), some (.int (nI v))]) (fun v => mem ch S) (fun v hv kl => ?_) ?_ (n) 0 (by omega)
    · refine am_iload_n rfl rfl ?_
      refine am_aload_n rfl rfl rfl ?_
      refine am_get rfl rfl rfl ?_
      refine am_icmp_ge rfl (fun h => absurd h (nm_lt N.1 hn hv)) (fun _ => ?_)
      refine am_iload_n rfl rfl ?_
      refine am_if_eq rfl (fun h54 => ?_) (fun h54 => ?_)
      · refine am_iconst rfl ?_
        refine am_istore_n rfl ?_
        refine am_iinc rfl rfl ?_
        refine am_goto rfl ?_
        simp only [anyb, Bool.not_or, bi_0 h54, Bool.true_and, Bool.false_and, Bool.and_true, Bool.and_false, Bool.not_true, Bool.not_false, nI_succ] at kl
        exact kl
      · refine am_aload_n rfl rfl rfl ?_
        refine am_get rfl rfl rfl ?_
        refine am_iload_n rfl rfl ?_
        refine am_iald rfl rfl rfl (by omega) (by decide) ?_
        refine am_aload_n rfl rfl rfl ?_
        refine am_get rfl rfl rfl ?_
        rw [M.2.2.1]
        refine am_iconst rfl ?_
        refine am_iadd rfl ?_
        refine am_icmp_eq rfl (fun h63 => ?_) (fun h63 => ?_)
        · refine am_iconst rfl ?_
          refine am_istore_n rfl ?_
          refine am_iinc rfl rfl ?_
          refine am_goto rfl ?_
          simp only [anyb, Bool.not_or, bi_1 h54, decide_eq_true h63, Bool.true_and, Bool.false_and, Bool.and_true, Bool.and_false, Bool.not_true, Bool.not_false, nI_succ] at kl
          exact kl
        · refine am_iconst rfl ?_
          refine am_goto rfl ?_
          refine am_istore_n rfl ?_
          refine am_iinc rfl rfl ?_
          refine am_goto rfl ?_
          simp only [anyb, Bool.not_or, bi_1 h54, decide_eq_false h63, Bool.true_and, Bool.false_and, Bool.and_true, Bool.and_false, Bool.not_true, Bool.not_false, nI_succ] at kl
          exact kl
    · refine am_iload_n rfl rfl ?_
      refine am_aload_n rfl rfl rfl ?_
      refine am_get rfl rfl rfl ?_
      refine am_icmp_ge rfl (fun _ => ?_) (fun h => absurd (nm_ge N.1 hn) h)
      refine am_iload_n rfl rfl ?_
      refine am_ireturn rfl (fun _ => bi_01 _) ⟨?_, S, Scr.rf, rfl⟩
      rfl
  | 7, M =>
    refine am_iconst rfl ?_
    refine am_istore_n rfl ?_
    refine am_aload_n rfl rfl rfl ?_
    refine am_get rfl rfl rfl ?_
    rw [M.1]
    refine am_swOut rfl (Or.inr (by decide)) ?_
    refine am_aload_n rfl rfl rfl ?_
    refine am_aload_n rfl rfl rfl ?_
    refine am_get rfl rfl rfl ?_
    rw [M.2.2.1]
    refine am_iconst rfl ?_
    refine am_iadd rfl ?_
    rw [nI_1]
    refine am_V [.int (nI (r + 1))] rfl rfl rfl rfl rfl rfl (m_lettersIn (d := _) N M) ?_
    rintro _ _ ⟨rfl, S1, hS1, rfl⟩ _
    refine am_if_ne rfl (fun h => ?_) (fun h => ?_)
    · refine am_iconst rfl ?_
      refine am_ireturn rfl (fun _ => by decide) ⟨?_, S1, hS1, rfl⟩
      simp only [fns, decide_eq_false h, bi, cond_false]
    · refine am_iconst rfl ?_
      refine am_goto rfl ?_
      refine am_ireturn rfl (fun _ => by decide) ⟨?_, S1, hS1, rfl⟩
      simp only [fns, decide_eq_true h, bi, cond_true]
  | k + 8, M => exact absurd M.2.1 (by omega)
theorem m_fin0 (h : S 38 8 = -1) : AW g d 0 0 136 0 (am_L0 136 [.ref 38]) [] (mem ch S) (am_is (some (.int 0)) (mem ch S)) := by
  refine am_aload_n rfl rfl rfl ?_
  refine am_get rfl rfl rfl ?_
  rw [h]
  refine am_if_lt rfl (fun _ => ?_) (fun h => absurd (by decide) h)
  refine am_iconst rfl ?_
  exact am_ireturn rfl (fun _ => by decide) ⟨rfl, rfl⟩
theorem m_fin (N : MN S n q fa fb) (M : MR S n q fa fb k rt r pr rk) : AW g (d + 6) 0 0 136 0 (am_L0 136 [.ref 38]) [] (mem ch S) (am_sc (bi (fns S n q fa fb rt k r)) ch S) := by
  refine am_aload_n rfl rfl rfl ?_
  refine am_get rfl rfl rfl ?_
  rw [M.1]
  refine am_if_lt rfl (fun h => absurd h (nI_pos (by have := M.2.1; omega))) (fun _ => ?_)
  refine am_aload_n rfl rfl rfl ?_
  refine am_V [] rfl rfl rfl rfl rfl rfl (m_isFinished (d := d) N M) ?_
  rintro _ _ ⟨rfl, S1, hS1, rfl⟩ _
  refine am_if_eq rfl (fun h => ?_) (fun h => ?_)
  · refine am_iconst rfl ?_
    exact am_ireturn rfl (fun _ => by decide) ⟨by rw [bi_0 h]; rfl, S1, hS1, rfl⟩
  · refine am_iconst rfl ?_
    refine am_goto rfl ?_
    exact am_ireturn rfl (fun _ => by decide) ⟨by rw [bi_1 h]; rfl, S1, hS1, rfl⟩
theorem m_rounds0 (h : S 38 8 = -1) : AW g d 0 0 137 0 (am_L0 137 [.ref 38]) [] (mem ch S) (am_is (some (.int (-1))) (mem ch S)) := by
  refine am_aload_n rfl rfl rfl ?_
  refine am_get rfl rfl rfl ?_
  rw [h]
  refine am_if_ge rfl (fun h => absurd h (by decide)) (fun _ => ?_)
  refine am_iconst rfl ?_
  refine am_goto rfl ?_
  exact am_ireturn rfl (fun h => absurd h (by decide)) ⟨rfl, rfl⟩
theorem m_rounds (h : S 38 8 = nI k) (hk : k < 8) : AW g d 0 0 137 0 (am_L0 137 [.ref 38]) [] (mem ch S) (am_is (some (.int (S 38 10))) (mem ch S)) := by
  refine am_aload_n rfl rfl rfl ?_
  refine am_get rfl rfl rfl ?_
  rw [h]
  refine am_if_ge rfl (fun _ => ?_) (fun h => absurd (nI_pos' (by omega)) h)
  refine am_aload_n rfl rfl rfl ?_
  refine am_get rfl rfl rfl ?_
  exact am_ireturn rfl (fun h => absurd h (by decide)) ⟨rfl, rfl⟩
theorem m_letters0 (h : S 38 8 = -1) : AW g d 0 0 138 0 (am_L0 138 [.ref 38]) [] (mem ch S) (am_is (some (.int (-1))) (mem ch S)) := by
  refine am_aload_n rfl rfl rfl ?_
  refine am_get rfl rfl rfl ?_
  rw [h]
  refine am_if_ge rfl (fun h => absurd h (by decide)) (fun _ => ?_)
  refine am_iconst rfl ?_
  refine am_goto rfl ?_
  exact am_ireturn rfl (fun h => absurd h (by decide)) ⟨rfl, rfl⟩
theorem m_letters (h : S 38 8 = nI k) (hk : k < 8) : AW g d 0 0 138 0 (am_L0 138 [.ref 38]) [] (mem ch S) (am_is (some (.int (S 38 11))) (mem ch S)) := by
  refine am_aload_n rfl rfl rfl ?_
  refine am_get rfl rfl rfl ?_
  rw [h]
  refine am_if_ge rfl (fun _ => ?_) (fun h => absurd (nI_pos' (by omega)) h)
  refine am_aload_n rfl rfl rfl ?_
  refine am_get rfl rfl rfl ?_
  exact am_ireturn rfl (fun h => absurd h (by decide)) ⟨rfl, rfl⟩
def mdn (S : am_S0) (r : Nat) (t : Int32) : am_S0 := am_up S 38 (upd (upd (S 38) 10 (nI r)) 11 t)
theorem Scr.dn {S1 : am_S0} {t : Int32} (h : Scr S S1) : Scr (mdn S r t) (mdn S1 r t) := fun j a b c => by
  unfold mdn am_up
  by_cases e : j = 38
  · rw [if_pos e, if_pos e, h 38 (by decide) (by decide) (by decide)]
  · rw [if_neg e, if_neg e, h j a b c]
theorem Sta.dn {t : Int32} : Sta S (mdn S r t) := ⟨rfl, rfl, rfl, rfl, rfl, rfl⟩
theorem MN.dn {t : Int32} (N : MN S n q fa fb) : MN (mdn S r t) n q fa fb := N.eq rfl rfl rfl rfl
theorem m_round0 (h : S 38 8 = -1) : AW g d 0 0 123 0 (am_L0 123 [.ref 38]) [] (mem ch S) (am_is (some (.int (-1))) (mem ch S)) := by
  refine am_aload_n rfl rfl rfl ?_
  refine am_get rfl rfl rfl ?_
  rw [h]
  refine am_if_lt rfl (fun _ => ?_) (fun h => absurd (by decide) h)
  refine am_iconst rfl ?_
  exact am_ireturn rfl (fun h => absurd h (by decide)) ⟨rfl, rfl⟩
theorem m_roundEnd (N : MN S n q fa fb) (M : MR S n q fa fb k rt r pr rk) (hf : fns S n q fa fb rt k r = true) : AW g (d + 6) 0 0 123 0 (am_L0 123 [.ref 38]) [] (mem ch S) (am_sc (-1) ch S) := by
  refine am_aload_n rfl rfl rfl ?_
  refine am_get rfl rfl rfl ?_
  rw [M.1]
  refine am_if_lt rfl (fun h => absurd h (nI_pos (by have := M.2.1; omega))) (fun _ => ?_)
  refine am_aload_n rfl rfl rfl ?_
  refine am_V [] rfl rfl rfl rfl rfl rfl (m_isFinished (d := d) N M) ?_
  rintro _ _ ⟨rfl, S1, hS1, rfl⟩ _
  rw [hf]
  refine am_if_eq rfl (fun h => absurd h (by decide)) (fun _ => ?_)
  refine am_iconst rfl ?_
  exact am_ireturn rfl (fun h => absurd h (by decide)) ⟨rfl, S1, hS1, rfl⟩
theorem m_roundGo (N : MN S n q fa fb) (M : MR S n q fa fb k rt r pr rk) (hf : fns S n q fa fb rt k r = false) : AW g (d + 6) 0 0 123 0 (am_L0 123 [.ref 38]) [] (mem ch S) (am_sc (ltI S n q fa fb rt k r) ch (mdn S (r + 1) (S 38 11 + ltI S n q fa fb rt k r))) := by
  refine am_aload_n rfl rfl rfl ?_
  refine am_get rfl rfl rfl ?_
  rw [M.1]
  refine am_if_lt rfl (fun h => absurd h (nI_pos (by have := M.2.1; omega))) (fun _ => ?_)
  refine am_aload_n rfl rfl rfl ?_
  refine am_V [] rfl rfl rfl rfl rfl rfl (m_isFinished (d := d) N M) ?_
  rintro _ _ ⟨rfl, S1, hS1, rfl⟩ _
  rw [hf]
  refine am_if_eq rfl (fun _ => ?_) (fun h => absurd (by decide) h)
  have N1 := N.scr hS1
  have M1 := M.scr hS1
  refine am_aload_n rfl rfl rfl ?_
  refine am_aload_n rfl rfl rfl ?_
  refine am_get rfl rfl rfl ?_
  rw [M1.2.2.1]
  refine am_iconst rfl ?_
  refine am_iadd rfl ?_
  rw [nI_1]
  refine am_V [.int (nI (r + 1))] rfl rfl rfl rfl rfl rfl (m_lettersIn (d := d + 1) N1 M1) ?_
  rintro _ _ ⟨rfl, S2, hS2, rfl⟩ _
  have hS := hS1.tr hS2
  have M2 := M.scr hS
  rw [ltI_sta hS1.sta]
  generalize ltI S n q fa fb rt k r = t
  refine am_istore_n rfl ?_
  refine am_aload_n rfl rfl rfl ?_
  refine am_dup rfl rfl ?_
  refine am_get rfl rfl rfl ?_
  rw [M2.2.2.1]
  refine am_iconst rfl ?_
  refine am_iadd rfl ?_
  rw [nI_1]
  refine am_put rfl rfl (Nat.le_of_ble_eq_true rfl) rfl ?_
  refine am_aload_n rfl rfl rfl ?_
  refine am_dup rfl rfl ?_
  refine am_get rfl rfl rfl ?_
  refine am_iload_n rfl rfl ?_
  refine am_iadd rfl ?_
  refine am_put rfl rfl (Nat.le_of_ble_eq_true rfl) rfl ?_
  refine am_iload_n rfl rfl ?_
  refine am_ireturn rfl (fun h => absurd h (by decide)) ⟨rfl, mdn S2 (r + 1) (S 38 11 + t), hS.dn, ?_⟩
  rw [← hS 38 (by decide) (by decide) (by decide)]
  rfl
/-- the letters sent, j rounds on -/
def mtot (S : am_S0) (n q : Nat) (fa fb : Nat → Nat) (rt k r : Nat) : Nat → Int32
  | 0 => S 38 11
  | j + 1 => mtot S n q fa fb rt k r j + ltI S n q fa fb rt k (r + j)
theorem m_run0 (h : S 38 8 = -1) (x : Int32) : AW g d 0 0 135 0 (am_L0 135 [.ref 38, .int x]) [] (mem ch S) (am_is (some (.int (-1))) (mem ch S)) := by
  refine am_aload_n rfl rfl rfl ?_
  refine am_get rfl rfl rfl ?_
  rw [h]
  refine am_if_lt rfl (fun _ => ?_) (fun h => absurd (by decide) h)
  refine am_iconst rfl ?_
  exact am_ireturn rfl (fun h => absurd h (by decide)) ⟨rfl, rfl⟩
theorem m_runNeg (h : S 38 8 = nI k) (hk : k < 8) (x : Int32) (hx : x < 0) : AW g d 0 0 135 0 (am_L0 135 [.ref 38, .int x]) [] (mem ch S) (am_is (some (.int (-1))) (mem ch S)) := by
  refine am_aload_n rfl rfl rfl ?_
  refine am_get rfl rfl rfl ?_
  rw [h]
  refine am_if_lt rfl (fun h => absurd h (nI_pos (by omega))) (fun _ => ?_)
  refine am_iload_n rfl rfl ?_
  refine am_if_ge rfl (fun h => absurd hx (Int32.not_lt.mpr h)) (fun _ => ?_)
  refine am_iconst rfl ?_
  exact am_ireturn rfl (fun h => absurd h (by decide)) ⟨rfl, rfl⟩
theorem m_run (N : MN S n q fa fb) (lim J : Nat) (hl : lim < 2 ^ 31) (hJ : J ≤ lim) (hM : ∀ i, i ≤ J → ∀ t, MR (mdn S (r + i) t) n q fa fb k rt (r + i) pr rk) (hgo : ∀ i, i < J → fns S n q fa fb rt k (r + i) = false ∧ 0 ≤ ltI S n q fa fb rt k (r + i)) (hend : J = lim ∨ fns S n q fa fb rt k (r + J) = true) (h10 : S 38 10 = nI r) : AW g (d + 7) 0 0 135 0 (am_L0 135 [.ref 38, .int (nI lim)]) [] (mem ch S) (am_sc (nI J) ch (mdn S (r + J) (mtot S n q fa fb rt k r J))) := by
  have M0 := hM 0 (Nat.zero_le _) 0
  refine am_aload_n rfl rfl rfl ?_
  refine am_get rfl rfl rfl ?_
  rw [show S 38 8 = nI k from M0.1]
  refine am_if_lt rfl (fun h => absurd h (nI_pos (by have := M0.2.1; omega))) (fun _ => ?_)
  refine am_iload_n rfl rfl ?_
  refine am_if_ge rfl (fun _ => ?_) (fun h => absurd (nI_pos' (by omega)) h)
  refine am_iconst rfl ?_
  refine am_istore_n rfl ?_
  have e0 : mdn S (r + 0) (mtot S n q fa fb rt k r 0) = S := by
    funext j
    unfold mdn am_up
    by_cases e : j = 38
    · rw [if_pos e, e]
      funext i
      unfold upd
      by_cases e1 : i = 11
      · rw [if_pos e1, e1]; rfl
      · rw [if_neg e1]
        by_cases e2 : i = 10
        · rw [if_pos e2, e2, h10]; rfl
        · rw [if_neg e2]
    · rw [if_neg e]
  show AW g _ 0 0 135 9 [some (.ref 38), some (.int (nI lim)), some (.int (nI 0))] [] _ _
  refine am_forS J (fun i _ => [some (.ref 38), some (.int (nI lim)), some (.int (nI i))]) (fun i S1 => mem ch S1) (fun i S1 => Scr (mdn S (r + i) (mtot S n q fa fb rt k r i)) S1) (fun i S1 hi I k0 => ?_) (fun S1 I => ?_) J 0 S (by omega) (by rw [e0]; exact Scr.rf)
  · obtain ⟨f1, f2⟩ := hgo i hi
    have N1 : MN S1 n q fa fb := (N.dn).scr I
    have M1 := (hM i (by omega) (mtot S n q fa fb rt k r i)).scr I
    refine am_iload_n rfl rfl ?_
    refine am_iload_n rfl rfl ?_
    refine am_icmp_ge rfl (fun h => absurd h (nI_ge (by omega) hl)) (fun _ => ?_)
    refine am_aload_n rfl rfl rfl ?_
    have e1 : fns S1 n q fa fb rt k (r + i) = false := by rw [fns_sta I.sta, fns_sta Sta.dn]; exact f1
    have e2 : ltI S1 n q fa fb rt k (r + i) = ltI S n q fa fb rt k (r + i) := by rw [ltI_sta I.sta, ltI_sta Sta.dn]
    have e3 : S1 38 11 = mtot S n q fa fb rt k r i := by rw [I 38 (by decide) (by decide) (by decide)]; rfl
    refine am_V [] rfl rfl rfl rfl rfl rfl (m_roundGo (d := d) N1 M1 e1) ?_
    rintro _ _ ⟨rfl, S2, hS2, rfl⟩ _
    rw [e2]
    rw [e2, e3] at hS2
    refine am_if_lt rfl (fun h => absurd h (Int32.not_lt.mpr f2)) (fun _ => ?_)
    refine am_iinc rfl rfl ?_
    refine am_goto rfl ?_
    have I2 : Scr (mdn S (r + (i + 1)) (mtot S n q fa fb rt k r (i + 1))) S2 := by
      intro j a b c
      rw [hS2 j a b c]
      show mdn S1 (r + i + 1) (mtot S n q fa fb rt k r (i + 1)) j = mdn S (r + (i + 1)) (mtot S n q fa fb rt k r (i + 1)) j
      generalize mtot S n q fa fb rt k r (i + 1) = t9
      have hI38 := I 38 (by decide) (by decide) (by decide)
      have hIj := I j a b c
      unfold mdn am_up at hI38 hIj ⊢
      rw [if_pos rfl] at hI38
      by_cases e : j = 38
      · rw [if_pos e, if_pos e, hI38]
        funext z
        unfold upd
        by_cases z1 : z = 11
        · subst z1; rfl
        · by_cases z2 : z = 10
          · subst z2; rfl
          · simp only [if_neg z1, if_neg z2]
      · rw [if_neg e] at hIj ⊢
        rw [if_neg e, hIj]
    have k0 := k0 S2 I2
    simp only [nI_succ] at k0
    exact k0
  · have N1 : MN S1 n q fa fb := (N.dn).scr I
    have M1 := (hM J (Nat.le_refl _) (mtot S n q fa fb rt k r J)).scr I
    refine am_iload_n rfl rfl ?_
    refine am_iload_n rfl rfl ?_
    refine am_icmp_ge rfl (fun _ => ?_) (fun h => ?_)
    · refine am_iload_n rfl rfl ?_
      exact am_ireturn rfl (fun h => absurd h (by decide)) ⟨rfl, S1, I, rfl⟩
    · have hJl : ¬ J = lim := fun e => h (by rw [e]; exact Int32.le_refl _)
      have e1 : fns S1 n q fa fb rt k (r + J) = true := by rw [fns_sta I.sta, fns_sta Sta.dn]; exact hend.resolve_left hJl
      refine am_aload_n rfl rfl rfl ?_
      refine am_V [] rfl rfl rfl rfl rfl rfl (m_roundEnd (d := d) N1 M1 e1) ?_
      rintro _ _ ⟨rfl, S2, hS2, rfl⟩ _
      refine am_if_lt rfl (fun _ => ?_) (fun h => absurd (by decide) h)
      refine am_iload_n rfl rfl ?_
      exact am_ireturn rfl (fun h => absurd h (by decide)) ⟨rfl, S2, I.tr hS2, rfl⟩
theorem m_chooseNo (x y : Int32) (h : S 38 6 = 0 ∨ x < 0 ∨ ¬ x < 8) : AW g d 0 0 113 0 (am_L0 113 [.ref 38, .int x, .int y]) [] (mem ch S) (am_is (some (.int 0)) (mem ch S)) := by
  refine am_aload_n rfl rfl rfl ?_
  refine am_get rfl rfl rfl ?_
  refine am_if_eq rfl (fun h2 => ?_) (fun h2 => ?_)
  · refine am_iconst rfl ?_
    refine am_ireturn rfl (fun _ => by decide) ⟨?_, rfl⟩
    rfl
  · refine am_iload_n rfl rfl ?_
    refine am_if_lt rfl (fun h4 => ?_) (fun h4 => ?_)
    · refine am_iconst rfl ?_
      refine am_ireturn rfl (fun _ => by decide) ⟨?_, rfl⟩
      rfl
    · refine am_iload_n rfl rfl ?_
      refine am_bipush rfl ?_
      refine am_icmp_le rfl (fun h7 => ?_) (fun h7 => ?_)
      · exact h.elim (fun q => absurd q h2) (fun q => q.elim (fun q => absurd q h4) (fun q => absurd (show x < 8 from Int32.lt_iff_toInt_lt.mpr (by have := Int32.le_iff_toInt_le.mp h7; have h2 : (7 : Int32).toInt = 7 := (by decide); have h3 : (8 : Int32).toInt = 8 := (by decide); omega)) q))
      · refine am_iconst rfl ?_
        refine am_ireturn rfl (fun _ => by decide) ⟨?_, rfl⟩
        rfl
def mtb (k : Nat) (S : am_S0) (x : Int32) : Bool := match k with
  | 0 | 4 | 5 => true
  | 6 => decide (1 ≤ x) && decide (x ≤ 12)
  | _ => decide (0 ≤ x) && decide (x < S 38 0)
def mcs1 (S : am_S0) (k : Nat) (y : Int32) : am_S0 := am_up S 38 (upd (upd (upd (upd (S 38) 8 (nI k)) 9 y) 10 0) 11 0)
def mcs2 (S : am_S0) (A : Nat → Nat → Option Nat) (n k : Nat) (y : Int32) : am_S0 := am_up (mcs1 S k y) 43 (mdist A n (S 43))
def mcs (S : am_S0) (n q : Nat) (fa fb : Nat → Nat) (rt k : Nat) (y : Int32) : am_S0 := match k with
  | 2 | 3 => am_up (am_up (mcs2 S (bt fa fb q) n k y) 44 (pw n (fun v => em (mpr fa fb q n (mdist (bt fa fb q) n (S 43)) rt v)) (S 44))) 45 (hts (mpr fa fb q n (mdist (bt fa fb q) n (S 43)) rt) n n (S 45))
  | 4 => am_up (am_up (mcs2 S (bt fa fb q) n k y) 46 (pck (bt fa fb q) (S 42) n n (S 46) (S 47)).1) 47 (pck (bt fa fb q) (S 42) n n (S 46) (S 47)).2
  | 5 => am_up (am_up (mcs2 S (bt fa fb q) n k y) 46 (mtc fa fb (S 41) n q q (S 46) (S 47)).2.1) 47 (mtc fa fb (S 41) n q q (S 46) (S 47)).2.2
  | 6 => am_up (mcs2 S (bt fa fb q) n k y) 47 (pel (bt fa fb q) n y n (S 47))
  | _ => mcs2 S (bt fa fb q) n k y
theorem m_chooseNo2 (hk : k < 8) (y : Int32) (h1 : ¬ S 38 6 = 0) (ht : mtb k S y = false) : AW g (d + 1) 0 0 113 0 (am_L0 113 [.ref 38, .int (nI k), .int y]) [] (mem ch S) (am_is (some (.int 0)) (mem ch S)) := by
  match k, hk with
  | 0, _ =>
    cases ht
  | 1, _ =>
    refine am_aload_n rfl rfl rfl ?_
    refine am_get rfl rfl rfl ?_
    refine am_if_eq rfl (fun h => absurd h h1) (fun _ => ?_)
    refine am_iload_n rfl rfl ?_
    refine am_if_lt rfl (fun h => absurd h (by decide)) (fun _ => ?_)
    refine am_iload_n rfl rfl ?_
    refine am_bipush rfl ?_
    refine am_icmp_le rfl (fun _ => ?_) (fun h => absurd (by decide) h)
    refine am_iload_n rfl rfl ?_
    refine am_iconst rfl ?_
    refine am_icmp_eq rfl (fun _ => ?_) (fun h => absurd (by decide) h)
    refine am_iconst rfl ?_
    refine am_goto rfl ?_
    refine am_istore_n rfl ?_
    refine am_iload_n rfl rfl ?_
    refine am_if_eq rfl (fun h => absurd h (by decide)) (fun _ => ?_)
    refine am_aload_n rfl rfl rfl ?_
    refine am_iload_n rfl rfl ?_
    refine am_Vx [.int y] rfl rfl rfl rfl rfl rfl (m_isNode (d := _) y) ?_
    rw [show (decide (0 ≤ y) && decide (y < S 38 0)) = false from ht]
    refine am_if_eq rfl (fun _ => ?_) (fun h => absurd (by decide) h)
    refine am_iconst rfl ?_
    refine am_ireturn rfl (fun _ => by decide) ⟨?_, rfl⟩
    rfl
  | 2, _ =>
    refine am_aload_n rfl rfl rfl ?_
    refine am_get rfl rfl rfl ?_
    refine am_if_eq rfl (fun h => absurd h h1) (fun _ => ?_)
    refine am_iload_n rfl rfl ?_
    refine am_if_lt rfl (fun h => absurd h (by decide)) (fun _ => ?_)
    refine am_iload_n rfl rfl ?_
    refine am_bipush rfl ?_
    refine am_icmp_le rfl (fun _ => ?_) (fun h => absurd (by decide) h)
    refine am_iload_n rfl rfl ?_
    refine am_iconst rfl ?_
    refine am_icmp_eq rfl (fun h => absurd h (by decide)) (fun _ => ?_)
    refine am_iload_n rfl rfl ?_
    refine am_iconst rfl ?_
    refine am_icmp_eq rfl (fun _ => ?_) (fun h => absurd (by decide) h)
    refine am_iconst rfl ?_
    refine am_goto rfl ?_
    refine am_istore_n rfl ?_
    refine am_iload_n rfl rfl ?_
    refine am_if_eq rfl (fun h => absurd h (by decide)) (fun _ => ?_)
    refine am_aload_n rfl rfl rfl ?_
    refine am_iload_n rfl rfl ?_
    refine am_Vx [.int y] rfl rfl rfl rfl rfl rfl (m_isNode (d := _) y) ?_
    rw [show (decide (0 ≤ y) && decide (y < S 38 0)) = false from ht]
    refine am_if_eq rfl (fun _ => ?_) (fun h => absurd (by decide) h)
    refine am_iconst rfl ?_
    refine am_ireturn rfl (fun _ => by decide) ⟨?_, rfl⟩
    rfl
  | 3, _ =>
    refine am_aload_n rfl rfl rfl ?_
    refine am_get rfl rfl rfl ?_
    refine am_if_eq rfl (fun h => absurd h h1) (fun _ => ?_)
    refine am_iload_n rfl rfl ?_
    refine am_if_lt rfl (fun h => absurd h (by decide)) (fun _ => ?_)
    refine am_iload_n rfl rfl ?_
    refine am_bipush rfl ?_
    refine am_icmp_le rfl (fun _ => ?_) (fun h => absurd (by decide) h)
    refine am_iload_n rfl rfl ?_
    refine am_iconst rfl ?_
    refine am_icmp_eq rfl (fun h => absurd h (by decide)) (fun _ => ?_)
    refine am_iload_n rfl rfl ?_
    refine am_iconst rfl ?_
    refine am_icmp_eq rfl (fun h => absurd h (by decide)) (fun _ => ?_)
    refine am_iload_n rfl rfl ?_
    refine am_iconst rfl ?_
    refine am_icmp_eq rfl (fun _ => ?_) (fun h => absurd (by decide) h)
    refine am_iconst rfl ?_
    refine am_goto rfl ?_
    refine am_istore_n rfl ?_
    refine am_iload_n rfl rfl ?_
    refine am_if_eq rfl (fun h => absurd h (by decide)) (fun _ => ?_)
    refine am_aload_n rfl rfl rfl ?_
    refine am_iload_n rfl rfl ?_
    refine am_Vx [.int y] rfl rfl rfl rfl rfl rfl (m_isNode (d := _) y) ?_
    rw [show (decide (0 ≤ y) && decide (y < S 38 0)) = false from ht]
    refine am_if_eq rfl (fun _ => ?_) (fun h => absurd (by decide) h)
    refine am_iconst rfl ?_
    refine am_ireturn rfl (fun _ => by decide) ⟨?_, rfl⟩
    rfl
  | 4, _ =>
    cases ht
  | 5, _ =>
    cases ht
  | 6, _ =>
    refine am_aload_n rfl rfl rfl ?_
    refine am_get rfl rfl rfl ?_
    refine am_if_eq rfl (fun h => absurd h h1) (fun _ => ?_)
    refine am_iload_n rfl rfl ?_
    refine am_if_lt rfl (fun h => absurd h (by decide)) (fun _ => ?_)
    refine am_iload_n rfl rfl ?_
    refine am_bipush rfl ?_
    refine am_icmp_le rfl (fun _ => ?_) (fun h => absurd (by decide) h)
    refine am_iload_n rfl rfl ?_
    refine am_iconst rfl ?_
    refine am_icmp_eq rfl (fun h => absurd h (by decide)) (fun _ => ?_)
    refine am_iload_n rfl rfl ?_
    refine am_iconst rfl ?_
    refine am_icmp_eq rfl (fun h => absurd h (by decide)) (fun _ => ?_)
    refine am_iload_n rfl rfl ?_
    refine am_iconst rfl ?_
    refine am_icmp_eq rfl (fun h => absurd h (by decide)) (fun _ => ?_)
    refine am_iload_n rfl rfl ?_
    refine am_bipush rfl ?_
    refine am_icmp_ne rfl (fun _ => ?_) (fun h => absurd h (by decide))
    refine am_iconst rfl ?_
    refine am_istore_n rfl ?_
    refine am_iload_n rfl rfl ?_
    refine am_if_eq rfl (fun _ => ?_) (fun h => absurd (by decide) h)
    refine am_iload_n rfl rfl ?_
    refine am_bipush rfl ?_
    refine am_icmp_ne rfl (fun h => absurd (by decide) h) (fun _ => ?_)
    refine am_iload_n rfl rfl ?_
    refine am_iconst rfl ?_
    refine am_icmp_lt rfl (fun h37 => ?_) (fun h37 => ?_)
    · refine am_iconst rfl ?_
      refine am_ireturn rfl (fun _ => by decide) ⟨?_, rfl⟩
      rfl
    · refine am_iload_n rfl rfl ?_
      refine am_bipush rfl ?_
      refine am_icmp_le rfl (fun h40 => ?_) (fun h40 => ?_)
      · exfalso
        simp only [mtb, decide_eq_true (Int32.not_lt.mp h37), decide_eq_true h40, Bool.and_self] at ht
        cases ht
      · refine am_iconst rfl ?_
        refine am_ireturn rfl (fun _ => by decide) ⟨?_, rfl⟩
        rfl
  | 7, _ =>
    refine am_aload_n rfl rfl rfl ?_
    refine am_get rfl rfl rfl ?_
    refine am_if_eq rfl (fun h => absurd h h1) (fun _ => ?_)
    refine am_iload_n rfl rfl ?_
    refine am_if_lt rfl (fun h => absurd h (by decide)) (fun _ => ?_)
    refine am_iload_n rfl rfl ?_
    refine am_bipush rfl ?_
    refine am_icmp_le rfl (fun _ => ?_) (fun h => absurd (by decide) h)
    refine am_iload_n rfl rfl ?_
    refine am_iconst rfl ?_
    refine am_icmp_eq rfl (fun h => absurd h (by decide)) (fun _ => ?_)
    refine am_iload_n rfl rfl ?_
    refine am_iconst rfl ?_
    refine am_icmp_eq rfl (fun h => absurd h (by decide)) (fun _ => ?_)
    refine am_iload_n rfl rfl ?_
    refine am_iconst rfl ?_
    refine am_icmp_eq rfl (fun h => absurd h (by decide)) (fun _ => ?_)
    refine am_iload_n rfl rfl ?_
    refine am_bipush rfl ?_
    refine am_icmp_ne rfl (fun h => absurd (by decide) h) (fun _ => ?_)
    refine am_iconst rfl ?_
    refine am_goto rfl ?_
    refine am_istore_n rfl ?_
    refine am_iload_n rfl rfl ?_
    refine am_if_eq rfl (fun h => absurd h (by decide)) (fun _ => ?_)
    refine am_aload_n rfl rfl rfl ?_
    refine am_iload_n rfl rfl ?_
    refine am_Vx [.int y] rfl rfl rfl rfl rfl rfl (m_isNode (d := _) y) ?_
    rw [show (decide (0 ≤ y) && decide (y < S 38 0)) = false from ht]
    refine am_if_eq rfl (fun _ => ?_) (fun h => absurd (by decide) h)
    refine am_iconst rfl ?_
    refine am_ireturn rfl (fun _ => by decide) ⟨?_, rfl⟩
    rfl
  | k + 8, hk => exact absurd hk (by omega)
theorem m_chooseYes (hk : k < 8) (N : MN S n q fa fb) (y : Int32) (h1 : ¬ S 38 6 = 0) (ht : mtb k S y = true) (hr : k = 1 ∨ k = 2 ∨ k = 3 ∨ k = 7 → rt < n ∧ y = nI rt) (hT : k = 2 ∨ k = 3 → Rk (mpr fa fb q n (mdist (bt fa fb q) n (S 43)) rt) n rk) (hp : k = 4 → ∀ j, j < n → (pkv (S 42) (pck (bt fa fb q) (S 42) n j (S 46) (S 47)).1 n).isSome = true) (hm : k = 5 → (∀ j, j < q → (itr (mt1 (S 41) (mtc fa fb (S 41) n q j (S 46) (S 47)).1) q none).isSome = true) ∧ ∀ j, j < q → ∀ l, (mtc fa fb (S 41) n q j (S 46) (S 47)).1 = some l → l < q) : AW g (d + 4) 0 0 113 0 (am_L0 113 [.ref 38, .int (nI k), .int y]) [] (mem ch S) (am_is (some (.int 1)) (mem ch (mcs S n q fa fb rt k y))) := by
  match k, hk with
  | 0, _ =>
    refine am_aload_n rfl rfl rfl ?_
    refine am_get rfl rfl rfl ?_
    refine am_if_eq rfl (fun h => absurd h h1) (fun _ => ?_)
    refine am_iload_n rfl rfl ?_
    refine am_if_lt rfl (fun h => absurd h (by decide)) (fun _ => ?_)
    refine am_iload_n rfl rfl ?_
    refine am_bipush rfl ?_
    refine am_icmp_le rfl (fun _ => ?_) (fun h => absurd (by decide) h)
    refine am_iload_n rfl rfl ?_
    refine am_iconst rfl ?_
    refine am_icmp_eq rfl (fun h => absurd h (by decide)) (fun _ => ?_)
    refine am_iload_n rfl rfl ?_
    refine am_iconst rfl ?_
    refine am_icmp_eq rfl (fun h => absurd h (by decide)) (fun _ => ?_)
    refine am_iload_n rfl rfl ?_
    refine am_iconst rfl ?_
    refine am_icmp_eq rfl (fun h => absurd h (by decide)) (fun _ => ?_)
    refine am_iload_n rfl rfl ?_
    refine am_bipush rfl ?_
    refine am_icmp_ne rfl (fun _ => ?_) (fun h => absurd h (by decide))
    refine am_iconst rfl ?_
    refine am_istore_n rfl ?_
    refine am_iload_n rfl rfl ?_
    refine am_if_eq rfl (fun _ => ?_) (fun h => absurd (by decide) h)
    refine am_iload_n rfl rfl ?_
    refine am_bipush rfl ?_
    refine am_icmp_ne rfl (fun _ => ?_) (fun h => absurd h (by decide))
    refine am_aload_n rfl rfl rfl ?_
    refine am_iload_n rfl rfl ?_
    refine am_put rfl rfl (Nat.le_of_ble_eq_true rfl) rfl ?_
    refine am_aload_n rfl rfl rfl ?_
    refine am_iload_n rfl rfl ?_
    refine am_put rfl rfl (Nat.le_of_ble_eq_true rfl) rfl ?_
    refine am_aload_n rfl rfl rfl ?_
    refine am_iconst rfl ?_
    refine am_put rfl rfl (Nat.le_of_ble_eq_true rfl) rfl ?_
    refine am_aload_n rfl rfl rfl ?_
    refine am_iconst rfl ?_
    refine am_put rfl rfl (Nat.le_of_ble_eq_true rfl) rfl ?_
    refine am_Meq (M' := mem ch (mcs1 S 0 y)) rfl ?_
    refine am_aload_n rfl rfl rfl ?_
    refine am_Vx [] rfl rfl rfl rfl rfl rfl (m_measure (d := _) (N.eq (S1 := mcs1 S 0 y) rfl rfl rfl rfl)) ?_
    refine am_Meq (M' := mem ch (mcs2 S (bt fa fb q) n 0 y)) rfl ?_
    refine am_aload_n rfl rfl rfl ?_
    refine am_get rfl rfl rfl ?_
    show AW g _ 0 0 113 59 _ (.int (nI 0) :: _) _ _
    refine am_iconst rfl ?_
    refine am_icmp_eq rfl (fun h => absurd h (by decide)) (fun _ => ?_)
    refine am_aload_n rfl rfl rfl ?_
    refine am_get rfl rfl rfl ?_
    show AW g _ 0 0 113 63 _ (.int (nI 0) :: _) _ _
    refine am_iconst rfl ?_
    refine am_icmp_ne rfl (fun _ => ?_) (fun h => absurd h (by decide))
    refine am_aload_n rfl rfl rfl ?_
    refine am_get rfl rfl rfl ?_
    show AW g _ 0 0 113 70 _ (.int (nI 0) :: _) _ _
    refine am_iconst rfl ?_
    refine am_icmp_ne rfl (fun _ => ?_) (fun h => absurd h (by decide))
    refine am_aload_n rfl rfl rfl ?_
    refine am_get rfl rfl rfl ?_
    show AW g _ 0 0 113 77 _ (.int (nI 0) :: _) _ _
    refine am_iconst rfl ?_
    refine am_icmp_ne rfl (fun _ => ?_) (fun h => absurd h (by decide))
    refine am_aload_n rfl rfl rfl ?_
    refine am_get rfl rfl rfl ?_
    show AW g _ 0 0 113 84 _ (.int (nI 0) :: _) _ _
    refine am_bipush rfl ?_
    refine am_icmp_ne rfl (fun _ => ?_) (fun h => absurd h (by decide))
    refine am_iconst rfl ?_
    exact am_ireturn rfl (fun _ => by decide) ⟨rfl, rfl⟩
  | 1, _ =>
    refine am_aload_n rfl rfl rfl ?_
    refine am_get rfl rfl rfl ?_
    refine am_if_eq rfl (fun h => absurd h h1) (fun _ => ?_)
    refine am_iload_n rfl rfl ?_
    refine am_if_lt rfl (fun h => absurd h (by decide)) (fun _ => ?_)
    refine am_iload_n rfl rfl ?_
    refine am_bipush rfl ?_
    refine am_icmp_le rfl (fun _ => ?_) (fun h => absurd (by decide) h)
    refine am_iload_n rfl rfl ?_
    refine am_iconst rfl ?_
    refine am_icmp_eq rfl (fun _ => ?_) (fun h => absurd (by decide) h)
    refine am_iconst rfl ?_
    refine am_goto rfl ?_
    refine am_istore_n rfl ?_
    refine am_iload_n rfl rfl ?_
    refine am_if_eq rfl (fun h => absurd h (by decide)) (fun _ => ?_)
    refine am_aload_n rfl rfl rfl ?_
    refine am_iload_n rfl rfl ?_
    refine am_Vx [.int y] rfl rfl rfl rfl rfl rfl (m_isNode (d := _) y) ?_
    rw [show (decide (0 ≤ y) && decide (y < S 38 0)) = true from ht]
    refine am_if_eq rfl (fun h => absurd h (by decide)) (fun _ => ?_)
    refine am_iload_n rfl rfl ?_
    refine am_bipush rfl ?_
    refine am_icmp_ne rfl (fun _ => ?_) (fun h => absurd h (by decide))
    refine am_aload_n rfl rfl rfl ?_
    refine am_iload_n rfl rfl ?_
    refine am_put rfl rfl (Nat.le_of_ble_eq_true rfl) rfl ?_
    refine am_aload_n rfl rfl rfl ?_
    refine am_iload_n rfl rfl ?_
    refine am_put rfl rfl (Nat.le_of_ble_eq_true rfl) rfl ?_
    refine am_aload_n rfl rfl rfl ?_
    refine am_iconst rfl ?_
    refine am_put rfl rfl (Nat.le_of_ble_eq_true rfl) rfl ?_
    refine am_aload_n rfl rfl rfl ?_
    refine am_iconst rfl ?_
    refine am_put rfl rfl (Nat.le_of_ble_eq_true rfl) rfl ?_
    refine am_Meq (M' := mem ch (mcs1 S 1 y)) rfl ?_
    refine am_aload_n rfl rfl rfl ?_
    refine am_Vx [] rfl rfl rfl rfl rfl rfl (m_measure (d := _) (N.eq (S1 := mcs1 S 1 y) rfl rfl rfl rfl)) ?_
    refine am_Meq (M' := mem ch (mcs2 S (bt fa fb q) n 1 y)) rfl ?_
    refine am_aload_n rfl rfl rfl ?_
    refine am_get rfl rfl rfl ?_
    show AW g _ 0 0 113 59 _ (.int (nI 1) :: _) _ _
    refine am_iconst rfl ?_
    refine am_icmp_eq rfl (fun h => absurd h (by decide)) (fun _ => ?_)
    refine am_aload_n rfl rfl rfl ?_
    refine am_get rfl rfl rfl ?_
    show AW g _ 0 0 113 63 _ (.int (nI 1) :: _) _ _
    refine am_iconst rfl ?_
    refine am_icmp_ne rfl (fun _ => ?_) (fun h => absurd h (by decide))
    refine am_aload_n rfl rfl rfl ?_
    refine am_get rfl rfl rfl ?_
    show AW g _ 0 0 113 70 _ (.int (nI 1) :: _) _ _
    refine am_iconst rfl ?_
    refine am_icmp_ne rfl (fun _ => ?_) (fun h => absurd h (by decide))
    refine am_aload_n rfl rfl rfl ?_
    refine am_get rfl rfl rfl ?_
    show AW g _ 0 0 113 77 _ (.int (nI 1) :: _) _ _
    refine am_iconst rfl ?_
    refine am_icmp_ne rfl (fun _ => ?_) (fun h => absurd h (by decide))
    refine am_aload_n rfl rfl rfl ?_
    refine am_get rfl rfl rfl ?_
    show AW g _ 0 0 113 84 _ (.int (nI 1) :: _) _ _
    refine am_bipush rfl ?_
    refine am_icmp_ne rfl (fun _ => ?_) (fun h => absurd h (by decide))
    refine am_iconst rfl ?_
    exact am_ireturn rfl (fun _ => by decide) ⟨rfl, rfl⟩
  | 2, _ =>
    refine am_aload_n rfl rfl rfl ?_
    refine am_get rfl rfl rfl ?_
    refine am_if_eq rfl (fun h => absurd h h1) (fun _ => ?_)
    refine am_iload_n rfl rfl ?_
    refine am_if_lt rfl (fun h => absurd h (by decide)) (fun _ => ?_)
    refine am_iload_n rfl rfl ?_
    refine am_bipush rfl ?_
    refine am_icmp_le rfl (fun _ => ?_) (fun h => absurd (by decide) h)
    refine am_iload_n rfl rfl ?_
    refine am_iconst rfl ?_
    refine am_icmp_eq rfl (fun h => absurd h (by decide)) (fun _ => ?_)
    refine am_iload_n rfl rfl ?_
    refine am_iconst rfl ?_
    refine am_icmp_eq rfl (fun _ => ?_) (fun h => absurd (by decide) h)
    refine am_iconst rfl ?_
    refine am_goto rfl ?_
    refine am_istore_n rfl ?_
    refine am_iload_n rfl rfl ?_
    refine am_if_eq rfl (fun h => absurd h (by decide)) (fun _ => ?_)
    refine am_aload_n rfl rfl rfl ?_
    refine am_iload_n rfl rfl ?_
    refine am_Vx [.int y] rfl rfl rfl rfl rfl rfl (m_isNode (d := _) y) ?_
    rw [show (decide (0 ≤ y) && decide (y < S 38 0)) = true from ht]
    refine am_if_eq rfl (fun h => absurd h (by decide)) (fun _ => ?_)
    refine am_iload_n rfl rfl ?_
    refine am_bipush rfl ?_
    refine am_icmp_ne rfl (fun _ => ?_) (fun h => absurd h (by decide))
    refine am_aload_n rfl rfl rfl ?_
    refine am_iload_n rfl rfl ?_
    refine am_put rfl rfl (Nat.le_of_ble_eq_true rfl) rfl ?_
    refine am_aload_n rfl rfl rfl ?_
    refine am_iload_n rfl rfl ?_
    refine am_put rfl rfl (Nat.le_of_ble_eq_true rfl) rfl ?_
    refine am_aload_n rfl rfl rfl ?_
    refine am_iconst rfl ?_
    refine am_put rfl rfl (Nat.le_of_ble_eq_true rfl) rfl ?_
    refine am_aload_n rfl rfl rfl ?_
    refine am_iconst rfl ?_
    refine am_put rfl rfl (Nat.le_of_ble_eq_true rfl) rfl ?_
    refine am_Meq (M' := mem ch (mcs1 S 2 y)) rfl ?_
    refine am_aload_n rfl rfl rfl ?_
    refine am_Vx [] rfl rfl rfl rfl rfl rfl (m_measure (d := _) (N.eq (S1 := mcs1 S 2 y) rfl rfl rfl rfl)) ?_
    refine am_Meq (M' := mem ch (mcs2 S (bt fa fb q) n 2 y)) rfl ?_
    refine am_aload_n rfl rfl rfl ?_
    refine am_get rfl rfl rfl ?_
    show AW g _ 0 0 113 59 _ (.int (nI 2) :: _) _ _
    refine am_iconst rfl ?_
    refine am_icmp_eq rfl (fun _ => ?_) (fun h => absurd (by decide) h)
    refine am_aload_n rfl rfl rfl ?_
    refine am_Vx [] rfl rfl rfl rfl rfl rfl (m_plant (d := _) (N.eq (S1 := mcs2 S (bt fa fb q) n 2 y) rfl rfl rfl rfl) rt (hr (by decide)).1 (hr (by decide)).2 (hT (by decide))) ?_
    refine am_goto rfl ?_
    refine am_iconst rfl ?_
    exact am_ireturn rfl (fun _ => by decide) ⟨rfl, rfl⟩
  | 3, _ =>
    refine am_aload_n rfl rfl rfl ?_
    refine am_get rfl rfl rfl ?_
    refine am_if_eq rfl (fun h => absurd h h1) (fun _ => ?_)
    refine am_iload_n rfl rfl ?_
    refine am_if_lt rfl (fun h => absurd h (by decide)) (fun _ => ?_)
    refine am_iload_n rfl rfl ?_
    refine am_bipush rfl ?_
    refine am_icmp_le rfl (fun _ => ?_) (fun h => absurd (by decide) h)
    refine am_iload_n rfl rfl ?_
    refine am_iconst rfl ?_
    refine am_icmp_eq rfl (fun h => absurd h (by decide)) (fun _ => ?_)
    refine am_iload_n rfl rfl ?_
    refine am_iconst rfl ?_
    refine am_icmp_eq rfl (fun h => absurd h (by decide)) (fun _ => ?_)
    refine am_iload_n rfl rfl ?_
    refine am_iconst rfl ?_
    refine am_icmp_eq rfl (fun _ => ?_) (fun h => absurd (by decide) h)
    refine am_iconst rfl ?_
    refine am_goto rfl ?_
    refine am_istore_n rfl ?_
    refine am_iload_n rfl rfl ?_
    refine am_if_eq rfl (fun h => absurd h (by decide)) (fun _ => ?_)
    refine am_aload_n rfl rfl rfl ?_
    refine am_iload_n rfl rfl ?_
    refine am_Vx [.int y] rfl rfl rfl rfl rfl rfl (m_isNode (d := _) y) ?_
    rw [show (decide (0 ≤ y) && decide (y < S 38 0)) = true from ht]
    refine am_if_eq rfl (fun h => absurd h (by decide)) (fun _ => ?_)
    refine am_iload_n rfl rfl ?_
    refine am_bipush rfl ?_
    refine am_icmp_ne rfl (fun _ => ?_) (fun h => absurd h (by decide))
    refine am_aload_n rfl rfl rfl ?_
    refine am_iload_n rfl rfl ?_
    refine am_put rfl rfl (Nat.le_of_ble_eq_true rfl) rfl ?_
    refine am_aload_n rfl rfl rfl ?_
    refine am_iload_n rfl rfl ?_
    refine am_put rfl rfl (Nat.le_of_ble_eq_true rfl) rfl ?_
    refine am_aload_n rfl rfl rfl ?_
    refine am_iconst rfl ?_
    refine am_put rfl rfl (Nat.le_of_ble_eq_true rfl) rfl ?_
    refine am_aload_n rfl rfl rfl ?_
    refine am_iconst rfl ?_
    refine am_put rfl rfl (Nat.le_of_ble_eq_true rfl) rfl ?_
    refine am_Meq (M' := mem ch (mcs1 S 3 y)) rfl ?_
    refine am_aload_n rfl rfl rfl ?_
    refine am_Vx [] rfl rfl rfl rfl rfl rfl (m_measure (d := _) (N.eq (S1 := mcs1 S 3 y) rfl rfl rfl rfl)) ?_
    refine am_Meq (M' := mem ch (mcs2 S (bt fa fb q) n 3 y)) rfl ?_
    refine am_aload_n rfl rfl rfl ?_
    refine am_get rfl rfl rfl ?_
    show AW g _ 0 0 113 59 _ (.int (nI 3) :: _) _ _
    refine am_iconst rfl ?_
    refine am_icmp_eq rfl (fun h => absurd h (by decide)) (fun _ => ?_)
    refine am_aload_n rfl rfl rfl ?_
    refine am_get rfl rfl rfl ?_
    show AW g _ 0 0 113 63 _ (.int (nI 3) :: _) _ _
    refine am_iconst rfl ?_
    refine am_icmp_ne rfl (fun h => absurd (by decide) h) (fun _ => ?_)
    refine am_aload_n rfl rfl rfl ?_
    refine am_Vx [] rfl rfl rfl rfl rfl rfl (m_plant (d := _) (N.eq (S1 := mcs2 S (bt fa fb q) n 3 y) rfl rfl rfl rfl) rt (hr (by decide)).1 (hr (by decide)).2 (hT (by decide))) ?_
    refine am_goto rfl ?_
    refine am_iconst rfl ?_
    exact am_ireturn rfl (fun _ => by decide) ⟨rfl, rfl⟩
  | 4, _ =>
    refine am_aload_n rfl rfl rfl ?_
    refine am_get rfl rfl rfl ?_
    refine am_if_eq rfl (fun h => absurd h h1) (fun _ => ?_)
    refine am_iload_n rfl rfl ?_
    refine am_if_lt rfl (fun h => absurd h (by decide)) (fun _ => ?_)
    refine am_iload_n rfl rfl ?_
    refine am_bipush rfl ?_
    refine am_icmp_le rfl (fun _ => ?_) (fun h => absurd (by decide) h)
    refine am_iload_n rfl rfl ?_
    refine am_iconst rfl ?_
    refine am_icmp_eq rfl (fun h => absurd h (by decide)) (fun _ => ?_)
    refine am_iload_n rfl rfl ?_
    refine am_iconst rfl ?_
    refine am_icmp_eq rfl (fun h => absurd h (by decide)) (fun _ => ?_)
    refine am_iload_n rfl rfl ?_
    refine am_iconst rfl ?_
    refine am_icmp_eq rfl (fun h => absurd h (by decide)) (fun _ => ?_)
    refine am_iload_n rfl rfl ?_
    refine am_bipush rfl ?_
    refine am_icmp_ne rfl (fun _ => ?_) (fun h => absurd h (by decide))
    refine am_iconst rfl ?_
    refine am_istore_n rfl ?_
    refine am_iload_n rfl rfl ?_
    refine am_if_eq rfl (fun _ => ?_) (fun h => absurd (by decide) h)
    refine am_iload_n rfl rfl ?_
    refine am_bipush rfl ?_
    refine am_icmp_ne rfl (fun _ => ?_) (fun h => absurd h (by decide))
    refine am_aload_n rfl rfl rfl ?_
    refine am_iload_n rfl rfl ?_
    refine am_put rfl rfl (Nat.le_of_ble_eq_true rfl) rfl ?_
    refine am_aload_n rfl rfl rfl ?_
    refine am_iload_n rfl rfl ?_
    refine am_put rfl rfl (Nat.le_of_ble_eq_true rfl) rfl ?_
    refine am_aload_n rfl rfl rfl ?_
    refine am_iconst rfl ?_
    refine am_put rfl rfl (Nat.le_of_ble_eq_true rfl) rfl ?_
    refine am_aload_n rfl rfl rfl ?_
    refine am_iconst rfl ?_
    refine am_put rfl rfl (Nat.le_of_ble_eq_true rfl) rfl ?_
    refine am_Meq (M' := mem ch (mcs1 S 4 y)) rfl ?_
    refine am_aload_n rfl rfl rfl ?_
    refine am_Vx [] rfl rfl rfl rfl rfl rfl (m_measure (d := _) (N.eq (S1 := mcs1 S 4 y) rfl rfl rfl rfl)) ?_
    refine am_Meq (M' := mem ch (mcs2 S (bt fa fb q) n 4 y)) rfl ?_
    refine am_aload_n rfl rfl rfl ?_
    refine am_get rfl rfl rfl ?_
    show AW g _ 0 0 113 59 _ (.int (nI 4) :: _) _ _
    refine am_iconst rfl ?_
    refine am_icmp_eq rfl (fun h => absurd h (by decide)) (fun _ => ?_)
    refine am_aload_n rfl rfl rfl ?_
    refine am_get rfl rfl rfl ?_
    show AW g _ 0 0 113 63 _ (.int (nI 4) :: _) _ _
    refine am_iconst rfl ?_
    refine am_icmp_ne rfl (fun _ => ?_) (fun h => absurd h (by decide))
    refine am_aload_n rfl rfl rfl ?_
    refine am_get rfl rfl rfl ?_
    show AW g _ 0 0 113 70 _ (.int (nI 4) :: _) _ _
    refine am_iconst rfl ?_
    refine am_icmp_ne rfl (fun h => absurd (by decide) h) (fun _ => ?_)
    refine am_aload_n rfl rfl rfl ?_
    refine am_Vx [] rfl rfl rfl rfl rfl rfl (m_pick (d := _) (N.eq (S1 := mcs2 S (bt fa fb q) n 4 y) rfl rfl rfl rfl) (hp rfl)) ?_
    refine am_goto rfl ?_
    refine am_iconst rfl ?_
    exact am_ireturn rfl (fun _ => by decide) ⟨rfl, rfl⟩
  | 5, _ =>
    refine am_aload_n rfl rfl rfl ?_
    refine am_get rfl rfl rfl ?_
    refine am_if_eq rfl (fun h => absurd h h1) (fun _ => ?_)
    refine am_iload_n rfl rfl ?_
    refine am_if_lt rfl (fun h => absurd h (by decide)) (fun _ => ?_)
    refine am_iload_n rfl rfl ?_
    refine am_bipush rfl ?_
    refine am_icmp_le rfl (fun _ => ?_) (fun h => absurd (by decide) h)
    refine am_iload_n rfl rfl ?_
    refine am_iconst rfl ?_
    refine am_icmp_eq rfl (fun h => absurd h (by decide)) (fun _ => ?_)
    refine am_iload_n rfl rfl ?_
    refine am_iconst rfl ?_
    refine am_icmp_eq rfl (fun h => absurd h (by decide)) (fun _ => ?_)
    refine am_iload_n rfl rfl ?_
    refine am_iconst rfl ?_
    refine am_icmp_eq rfl (fun h => absurd h (by decide)) (fun _ => ?_)
    refine am_iload_n rfl rfl ?_
    refine am_bipush rfl ?_
    refine am_icmp_ne rfl (fun _ => ?_) (fun h => absurd h (by decide))
    refine am_iconst rfl ?_
    refine am_istore_n rfl ?_
    refine am_iload_n rfl rfl ?_
    refine am_if_eq rfl (fun _ => ?_) (fun h => absurd (by decide) h)
    refine am_iload_n rfl rfl ?_
    refine am_bipush rfl ?_
    refine am_icmp_ne rfl (fun _ => ?_) (fun h => absurd h (by decide))
    refine am_aload_n rfl rfl rfl ?_
    refine am_iload_n rfl rfl ?_
    refine am_put rfl rfl (Nat.le_of_ble_eq_true rfl) rfl ?_
    refine am_aload_n rfl rfl rfl ?_
    refine am_iload_n rfl rfl ?_
    refine am_put rfl rfl (Nat.le_of_ble_eq_true rfl) rfl ?_
    refine am_aload_n rfl rfl rfl ?_
    refine am_iconst rfl ?_
    refine am_put rfl rfl (Nat.le_of_ble_eq_true rfl) rfl ?_
    refine am_aload_n rfl rfl rfl ?_
    refine am_iconst rfl ?_
    refine am_put rfl rfl (Nat.le_of_ble_eq_true rfl) rfl ?_
    refine am_Meq (M' := mem ch (mcs1 S 5 y)) rfl ?_
    refine am_aload_n rfl rfl rfl ?_
    refine am_Vx [] rfl rfl rfl rfl rfl rfl (m_measure (d := _) (N.eq (S1 := mcs1 S 5 y) rfl rfl rfl rfl)) ?_
    refine am_Meq (M' := mem ch (mcs2 S (bt fa fb q) n 5 y)) rfl ?_
    refine am_aload_n rfl rfl rfl ?_
    refine am_get rfl rfl rfl ?_
    show AW g _ 0 0 113 59 _ (.int (nI 5) :: _) _ _
    refine am_iconst rfl ?_
    refine am_icmp_eq rfl (fun h => absurd h (by decide)) (fun _ => ?_)
    refine am_aload_n rfl rfl rfl ?_
    refine am_get rfl rfl rfl ?_
    show AW g _ 0 0 113 63 _ (.int (nI 5) :: _) _ _
    refine am_iconst rfl ?_
    refine am_icmp_ne rfl (fun _ => ?_) (fun h => absurd h (by decide))
    refine am_aload_n rfl rfl rfl ?_
    refine am_get rfl rfl rfl ?_
    show AW g _ 0 0 113 70 _ (.int (nI 5) :: _) _ _
    refine am_iconst rfl ?_
    refine am_icmp_ne rfl (fun _ => ?_) (fun h => absurd h (by decide))
    refine am_aload_n rfl rfl rfl ?_
    refine am_get rfl rfl rfl ?_
    show AW g _ 0 0 113 77 _ (.int (nI 5) :: _) _ _
    refine am_iconst rfl ?_
    refine am_icmp_ne rfl (fun h => absurd (by decide) h) (fun _ => ?_)
    refine am_aload_n rfl rfl rfl ?_
    refine am_Vx [] rfl rfl rfl rfl rfl rfl (m_match (d := _) (N.eq (S1 := mcs2 S (bt fa fb q) n 5 y) rfl rfl rfl rfl) (hm rfl).1 (hm rfl).2) ?_
    refine am_goto rfl ?_
    refine am_iconst rfl ?_
    exact am_ireturn rfl (fun _ => by decide) ⟨rfl, rfl⟩
  | 6, _ =>
    rw [show mtb 6 S y = (decide (1 ≤ y) && decide (y ≤ 12)) from rfl, Bool.and_eq_true, decide_eq_true_eq, decide_eq_true_eq] at ht
    refine am_aload_n rfl rfl rfl ?_
    refine am_get rfl rfl rfl ?_
    refine am_if_eq rfl (fun h => absurd h h1) (fun _ => ?_)
    refine am_iload_n rfl rfl ?_
    refine am_if_lt rfl (fun h => absurd h (by decide)) (fun _ => ?_)
    refine am_iload_n rfl rfl ?_
    refine am_bipush rfl ?_
    refine am_icmp_le rfl (fun _ => ?_) (fun h => absurd (by decide) h)
    refine am_iload_n rfl rfl ?_
    refine am_iconst rfl ?_
    refine am_icmp_eq rfl (fun h => absurd h (by decide)) (fun _ => ?_)
    refine am_iload_n rfl rfl ?_
    refine am_iconst rfl ?_
    refine am_icmp_eq rfl (fun h => absurd h (by decide)) (fun _ => ?_)
    refine am_iload_n rfl rfl ?_
    refine am_iconst rfl ?_
    refine am_icmp_eq rfl (fun h => absurd h (by decide)) (fun _ => ?_)
    refine am_iload_n rfl rfl ?_
    refine am_bipush rfl ?_
    refine am_icmp_ne rfl (fun _ => ?_) (fun h => absurd h (by decide))
    refine am_iconst rfl ?_
    refine am_istore_n rfl ?_
    refine am_iload_n rfl rfl ?_
    refine am_if_eq rfl (fun _ => ?_) (fun h => absurd (by decide) h)
    refine am_iload_n rfl rfl ?_
    refine am_bipush rfl ?_
    refine am_icmp_ne rfl (fun h => absurd (by decide) h) (fun _ => ?_)
    refine am_iload_n rfl rfl ?_
    refine am_iconst rfl ?_
    refine am_icmp_lt rfl (fun h => absurd h (Int32.not_lt.mpr ht.1)) (fun _ => ?_)
    refine am_iload_n rfl rfl ?_
    refine am_bipush rfl ?_
    refine am_icmp_le rfl (fun _ => ?_) (fun h => absurd ht.2 h)
    refine am_aload_n rfl rfl rfl ?_
    refine am_iload_n rfl rfl ?_
    refine am_put rfl rfl (Nat.le_of_ble_eq_true rfl) rfl ?_
    refine am_aload_n rfl rfl rfl ?_
    refine am_iload_n rfl rfl ?_
    refine am_put rfl rfl (Nat.le_of_ble_eq_true rfl) rfl ?_
    refine am_aload_n rfl rfl rfl ?_
    refine am_iconst rfl ?_
    refine am_put rfl rfl (Nat.le_of_ble_eq_true rfl) rfl ?_
    refine am_aload_n rfl rfl rfl ?_
    refine am_iconst rfl ?_
    refine am_put rfl rfl (Nat.le_of_ble_eq_true rfl) rfl ?_
    refine am_Meq (M' := mem ch (mcs1 S 6 y)) rfl ?_
    refine am_aload_n rfl rfl rfl ?_
    refine am_Vx [] rfl rfl rfl rfl rfl rfl (m_measure (d := _) (N.eq (S1 := mcs1 S 6 y) rfl rfl rfl rfl)) ?_
    refine am_Meq (M' := mem ch (mcs2 S (bt fa fb q) n 6 y)) rfl ?_
    refine am_aload_n rfl rfl rfl ?_
    refine am_get rfl rfl rfl ?_
    show AW g _ 0 0 113 59 _ (.int (nI 6) :: _) _ _
    refine am_iconst rfl ?_
    refine am_icmp_eq rfl (fun h => absurd h (by decide)) (fun _ => ?_)
    refine am_aload_n rfl rfl rfl ?_
    refine am_get rfl rfl rfl ?_
    show AW g _ 0 0 113 63 _ (.int (nI 6) :: _) _ _
    refine am_iconst rfl ?_
    refine am_icmp_ne rfl (fun _ => ?_) (fun h => absurd h (by decide))
    refine am_aload_n rfl rfl rfl ?_
    refine am_get rfl rfl rfl ?_
    show AW g _ 0 0 113 70 _ (.int (nI 6) :: _) _ _
    refine am_iconst rfl ?_
    refine am_icmp_ne rfl (fun _ => ?_) (fun h => absurd h (by decide))
    refine am_aload_n rfl rfl rfl ?_
    refine am_get rfl rfl rfl ?_
    show AW g _ 0 0 113 77 _ (.int (nI 6) :: _) _ _
    refine am_iconst rfl ?_
    refine am_icmp_ne rfl (fun _ => ?_) (fun h => absurd h (by decide))
    refine am_aload_n rfl rfl rfl ?_
    refine am_get rfl rfl rfl ?_
    show AW g _ 0 0 113 84 _ (.int (nI 6) :: _) _ _
    refine am_bipush rfl ?_
    refine am_icmp_ne rfl (fun h => absurd (by decide) h) (fun _ => ?_)
    refine am_aload_n rfl rfl rfl ?_
    refine am_Vx [] rfl rfl rfl rfl rfl rfl (m_peel (d := _) (N.eq (S1 := mcs2 S (bt fa fb q) n 6 y) rfl rfl rfl rfl)) ?_
    refine am_iconst rfl ?_
    exact am_ireturn rfl (fun _ => by decide) ⟨rfl, rfl⟩
  | 7, _ =>
    refine am_aload_n rfl rfl rfl ?_
    refine am_get rfl rfl rfl ?_
    refine am_if_eq rfl (fun h => absurd h h1) (fun _ => ?_)
    refine am_iload_n rfl rfl ?_
    refine am_if_lt rfl (fun h => absurd h (by decide)) (fun _ => ?_)
    refine am_iload_n rfl rfl ?_
    refine am_bipush rfl ?_
    refine am_icmp_le rfl (fun _ => ?_) (fun h => absurd (by decide) h)
    refine am_iload_n rfl rfl ?_
    refine am_iconst rfl ?_
    refine am_icmp_eq rfl (fun h => absurd h (by decide)) (fun _ => ?_)
    refine am_iload_n rfl rfl ?_
    refine am_iconst rfl ?_
    refine am_icmp_eq rfl (fun h => absurd h (by decide)) (fun _ => ?_)
    refine am_iload_n rfl rfl ?_
    refine am_iconst rfl ?_
    refine am_icmp_eq rfl (fun h => absurd h (by decide)) (fun _ => ?_)
    refine am_iload_n rfl rfl ?_
    refine am_bipush rfl ?_
    refine am_icmp_ne rfl (fun h => absurd (by decide) h) (fun _ => ?_)
    refine am_iconst rfl ?_
    refine am_goto rfl ?_
    refine am_istore_n rfl ?_
    refine am_iload_n rfl rfl ?_
    refine am_if_eq rfl (fun h => absurd h (by decide)) (fun _ => ?_)
    refine am_aload_n rfl rfl rfl ?_
    refine am_iload_n rfl rfl ?_
    refine am_Vx [.int y] rfl rfl rfl rfl rfl rfl (m_isNode (d := _) y) ?_
    rw [show (decide (0 ≤ y) && decide (y < S 38 0)) = true from ht]
    refine am_if_eq rfl (fun h => absurd h (by decide)) (fun _ => ?_)
    refine am_iload_n rfl rfl ?_
    refine am_bipush rfl ?_
    refine am_icmp_ne rfl (fun _ => ?_) (fun h => absurd h (by decide))
    refine am_aload_n rfl rfl rfl ?_
    refine am_iload_n rfl rfl ?_
    refine am_put rfl rfl (Nat.le_of_ble_eq_true rfl) rfl ?_
    refine am_aload_n rfl rfl rfl ?_
    refine am_iload_n rfl rfl ?_
    refine am_put rfl rfl (Nat.le_of_ble_eq_true rfl) rfl ?_
    refine am_aload_n rfl rfl rfl ?_
    refine am_iconst rfl ?_
    refine am_put rfl rfl (Nat.le_of_ble_eq_true rfl) rfl ?_
    refine am_aload_n rfl rfl rfl ?_
    refine am_iconst rfl ?_
    refine am_put rfl rfl (Nat.le_of_ble_eq_true rfl) rfl ?_
    refine am_Meq (M' := mem ch (mcs1 S 7 y)) rfl ?_
    refine am_aload_n rfl rfl rfl ?_
    refine am_Vx [] rfl rfl rfl rfl rfl rfl (m_measure (d := _) (N.eq (S1 := mcs1 S 7 y) rfl rfl rfl rfl)) ?_
    refine am_Meq (M' := mem ch (mcs2 S (bt fa fb q) n 7 y)) rfl ?_
    refine am_aload_n rfl rfl rfl ?_
    refine am_get rfl rfl rfl ?_
    show AW g _ 0 0 113 59 _ (.int (nI 7) :: _) _ _
    refine am_iconst rfl ?_
    refine am_icmp_eq rfl (fun h => absurd h (by decide)) (fun _ => ?_)
    refine am_aload_n rfl rfl rfl ?_
    refine am_get rfl rfl rfl ?_
    show AW g _ 0 0 113 63 _ (.int (nI 7) :: _) _ _
    refine am_iconst rfl ?_
    refine am_icmp_ne rfl (fun _ => ?_) (fun h => absurd h (by decide))
    refine am_aload_n rfl rfl rfl ?_
    refine am_get rfl rfl rfl ?_
    show AW g _ 0 0 113 70 _ (.int (nI 7) :: _) _ _
    refine am_iconst rfl ?_
    refine am_icmp_ne rfl (fun _ => ?_) (fun h => absurd h (by decide))
    refine am_aload_n rfl rfl rfl ?_
    refine am_get rfl rfl rfl ?_
    show AW g _ 0 0 113 77 _ (.int (nI 7) :: _) _ _
    refine am_iconst rfl ?_
    refine am_icmp_ne rfl (fun _ => ?_) (fun h => absurd h (by decide))
    refine am_aload_n rfl rfl rfl ?_
    refine am_get rfl rfl rfl ?_
    show AW g _ 0 0 113 84 _ (.int (nI 7) :: _) _ _
    refine am_bipush rfl ?_
    refine am_icmp_ne rfl (fun _ => ?_) (fun h => absurd h (by decide))
    refine am_iconst rfl ?_
    exact am_ireturn rfl (fun _ => by decide) ⟨rfl, rfl⟩
  | k + 8, hk => exact absurd hk (by omega)
end MM11
