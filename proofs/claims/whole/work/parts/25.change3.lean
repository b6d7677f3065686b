/-! the class: a round of Sides and Sums -/
section CCHI
variable {g : am_G} {d : Nat} {ch : Option Nat} {S : am_S0} {n : Nat} {E : Nat → Nat → Option Nat}
/-- Sides.deliver(side, u) -/
def dlv (side : Int32) (u : Nat) (S : am_S0) : am_S0 := bif decide (S 24 u = -1) then am_up (am_up S 20 (upd (S 20) u (1 - side))) 22 (upd (S 22) u (S 1 6)) else bif decide (S 24 u = side) then am_up S 21 (upd (S 21) u 1) else S
theorem dlv_ag (side : Int32) (u : Nat) (S : am_S0) : Ag S (dlv side u S) := by
  unfold dlv
  cases decide (S 24 u = -1)
  · show Ag S (bif _ then _ else _)
    cases decide (S 24 u = side)
    · exact Ag.rf
    · exact Ag.rf.up (Or.inr (Or.inl rfl))
  · exact (Ag.rf.up (Or.inl rfl)).up (Or.inr (Or.inr rfl))
theorem s_deliver (x : Nat) (hx : x < 12) (y : Int32) : AW g d 0 0 90 0 (am_L0 90 [.ref 1, .int y, .int (nI x)]) [] (mem ch S) (am_is none (mem ch (dlv y x S))) := by
  unfold dlv
  refine am_aload_n rfl rfl rfl ?_
  refine am_get rfl rfl rfl ?_
  refine am_iconst rfl ?_
  refine am_aald (k8 := 0) rfl rfl (Or.inl rfl) rfl (by decide) (by decide) rfl ?_
  refine am_iload_n rfl rfl ?_
  refine am_iald rfl rfl rfl hx (by decide) ?_
  refine am_iconst rfl ?_
  refine am_icmp_ne rfl (fun h7 => ?_) (fun h7 => ?_)
  · refine am_aload_n rfl rfl rfl ?_
    refine am_get rfl rfl rfl ?_
    refine am_iconst rfl ?_
    refine am_aald (k8 := 0) rfl rfl (Or.inl rfl) rfl (by decide) (by decide) rfl ?_
    refine am_iload_n rfl rfl ?_
    refine am_iald rfl rfl rfl hx (by decide) ?_
    refine am_iload_n rfl rfl ?_
    refine am_icmp_ne rfl (fun h33 => ?_) (fun h33 => ?_)
    · refine am_return rfl ⟨rfl, ?_⟩
      first
        | (rw [decide_eq_true h7]; rfl)
        | (rw [decide_eq_false h7, decide_eq_true h33]; rfl)
        | (rw [decide_eq_false h7, decide_eq_false h33]; rfl)
    · refine am_aload_n rfl rfl rfl ?_
      refine am_get rfl rfl rfl ?_
      refine am_iconst rfl ?_
      refine am_aald (k8 := 1) rfl rfl (Or.inl rfl) rfl (by decide) (by decide) rfl ?_
      refine am_iload_n rfl rfl ?_
      refine am_iconst rfl ?_
      refine am_iast rfl rfl rfl hx (by decide) ?_
      refine am_return rfl ⟨rfl, ?_⟩
      first
        | (rw [decide_eq_true h7]; rfl)
        | (rw [decide_eq_false h7, decide_eq_true h33]; rfl)
        | (rw [decide_eq_false h7, decide_eq_false h33]; rfl)
  · refine am_aload_n rfl rfl rfl ?_
    refine am_get rfl rfl rfl ?_
    refine am_iconst rfl ?_
    refine am_aald (k8 := 0) rfl rfl (Or.inl rfl) rfl (by decide) (by decide) rfl ?_
    refine am_iload_n rfl rfl ?_
    refine am_iconst rfl ?_
    refine am_iload_n rfl rfl ?_
    refine am_isub rfl ?_
    refine am_iast rfl rfl rfl hx (by decide) ?_
    refine am_aload_n rfl rfl rfl ?_
    refine am_get rfl rfl rfl ?_
    refine am_iconst rfl ?_
    refine am_aald (k8 := 2) rfl rfl (Or.inl rfl) rfl (by decide) (by decide) rfl ?_
    refine am_iload_n rfl rfl ?_
    refine am_aload_n rfl rfl rfl ?_
    refine am_get rfl rfl rfl ?_
    refine am_iast rfl rfl rfl hx (by decide) ?_
    refine am_goto rfl ?_
    refine am_return rfl ⟨rfl, ?_⟩
    first
      | (rw [decide_eq_true h7]; rfl)
      | (rw [decide_eq_false h7, decide_eq_true h33]; rfl)
      | (rw [decide_eq_false h7, decide_eq_false h33]; rfl)
def sid1 (E : Nat → Nat → Option Nat) (v u : Nat) (S : am_S0) : am_S0 := bif !decide (S 27 v = 0) && (E v u).isSome then dlv (S 24 v) u S else S
theorem sid1_ag (v u : Nat) (S : am_S0) : Ag S (sid1 E v u S) := by
  unfold sid1
  cases !decide (S 27 v = 0) && (E v u).isSome
  · exact Ag.rf
  · exact dlv_ag _ u S
def sid (E : Nat → Nat → Option Nat) (n v : Nat) (S : am_S0) : am_S0 := itr (sid1 E v) n S
theorem sid_ag (v : Nat) (S : am_S0) : Ag S (sid E n v S) := Ag.itr (sid1_ag v) n S
/-- Sides.change() -/
theorem s_chg7 (N : NetIs S n E) : AW g (d + 1) 0 0 89 0 (am_L0 89 [.ref 37, .ref 1]) [] (mem ch S) (am_is none (mem ch (itr (sid E n) n S))) := by
  have hn := N.2.1
  refine am_iconst rfl ?_
  refine am_istore_n rfl ?_
  refine am_Meq (M' := mem ch (itr (sid E n) 0 S)) rfl ?_
  show AW g (d + 1) 0 0 89 2 [some (.ref 37), some (.ref 1), some (.int (nI 0)), none] [] _ _
  have key : ∀ y : Option Value, AW g (d + 1) 0 0 89 2 [some (.ref 37), some (.ref 1), some (.int (nI 0)), y] [] (mem ch (itr (sid E n) 0 S)) (am_is none (mem ch (itr (sid E n) n S))) := by
    intro y
    refine am_forS n (fun v y => [some (.ref 37), some (.ref 1), some (.int (nI v)), y]) (fun v _ => mem ch (itr (sid E n) v S)) (fun _ _ => True) (fun w y hw _ k0 => ?_) (fun y _ => ?_) n 0 y (by omega) trivial
    · rw [itr_s] at k0
      have A0 : Ag S (itr (sid E n) w S) := Ag.itr sid_ag w S
      generalize itr (sid E n) w S = S2 at A0 k0 ⊢
      have N1 := N.ag A0
      have k0 := k0 (some (.int (nI n))) trivial
      unfold sid at k0
      refine am_iload_n rfl rfl ?_
      refine am_aload_n rfl rfl rfl ?_
      refine am_get rfl rfl rfl ?_
      refine am_get rfl rfl rfl ?_
      refine am_icmp_ge rfl (fun h => absurd h (nd_lt N1.1 N.2.1 hw)) (fun _ => ?_)
      refine am_iconst rfl ?_
      refine am_istore_n rfl ?_
      refine am_Meq (M' := mem ch (itr (sid1 E w) 0 S2)) rfl ?_
      show AW g (d + 1) 0 0 89 9 [some (.ref 37), some (.ref 1), some (.int (nI w)), some (.int (nI 0))] [] _ _
      have N0 := N1
      clear N1
      refine am_for (n) (fun v => [some (.ref 37), some (.ref 1), some (.int (nI w)), some (.int (nI v))]) (fun v => mem ch (itr (sid1 E w) v S2)) (fun v hv k => ?_) ?_ n 0 (by omega)
      · rw [itr_s] at k
        have A : Ag S2 (itr (sid1 E w) v S2) := Ag.itr (sid1_ag w) v S2
        generalize itr (sid1 E w) v S2 = S1 at A k ⊢
        have N1 := N0.ag A
        unfold sid1 at k
        refine am_iload_n rfl rfl ?_
        refine am_aload_n rfl rfl rfl ?_
        refine am_get rfl rfl rfl ?_
        refine am_get rfl rfl rfl ?_
        refine am_icmp_ge rfl (fun h => absurd h (nd_lt N1.1 N.2.1 hv)) (fun _ => ?_)
        refine am_aload_n rfl rfl rfl ?_
        refine am_get rfl rfl rfl ?_
        refine am_iload_n rfl rfl ?_
        refine am_bald rfl rfl rfl (by omega) (by decide) ?_
        refine am_if_eq rfl (fun h18 => ?_) (fun h18 => ?_)
        · refine am_iinc rfl rfl ?_
          refine am_goto rfl ?_
          first
            | (rw [decide_eq_true h18, Bool.not_true, Bool.false_and, cond_false] at k; simp only [nI_succ] at k; exact k)
            | (rw [decide_eq_false h18, bi_0 h24, Bool.and_false, cond_false] at k; simp only [nI_succ] at k; exact k)
            | (rw [decide_eq_false h18, bi_1 h24, Bool.not_false, Bool.and_self, cond_true] at k; simp only [nI_succ] at k; exact k)
        · refine am_aload_n rfl rfl rfl ?_
          refine am_get rfl rfl rfl ?_
          refine am_iload_n rfl rfl ?_
          refine am_iload_n rfl rfl ?_
          refine am_Vx [.int (nI w), .int (nI v)] rfl rfl rfl rfl rfl rfl (s_areN N1 w v (by omega) (by omega)) ?_
          refine am_if_eq rfl (fun h24 => ?_) (fun h24 => ?_)
          · refine am_iinc rfl rfl ?_
            refine am_goto rfl ?_
            first
              | (rw [decide_eq_true h18, Bool.not_true, Bool.false_and, cond_false] at k; simp only [nI_succ] at k; exact k)
              | (rw [decide_eq_false h18, bi_0 h24, Bool.and_false, cond_false] at k; simp only [nI_succ] at k; exact k)
              | (rw [decide_eq_false h18, bi_1 h24, Bool.not_false, Bool.and_self, cond_true] at k; simp only [nI_succ] at k; exact k)
          · refine am_aload_n rfl rfl rfl ?_
            refine am_aload_n rfl rfl rfl ?_
            refine am_get rfl rfl rfl ?_
            refine am_iconst rfl ?_
            refine am_aald (k8 := 0) rfl rfl (Or.inl rfl) rfl (by decide) (by decide) rfl ?_
            refine am_iload_n rfl rfl ?_
            refine am_iald rfl rfl rfl (by omega) (by decide) ?_
            refine am_iload_n rfl rfl ?_
            refine am_Sx [.ref 1, .int (S1 24 w), .int (nI v)] rfl rfl rfl rfl (s_deliver (d := d) v (by omega) _) ?_
            refine am_iinc rfl rfl ?_
            refine am_goto rfl ?_
            first
              | (rw [decide_eq_true h18, Bool.not_true, Bool.false_and, cond_false] at k; simp only [nI_succ] at k; exact k)
              | (rw [decide_eq_false h18, bi_0 h24, Bool.and_false, cond_false] at k; simp only [nI_succ] at k; exact k)
              | (rw [decide_eq_false h18, bi_1 h24, Bool.not_false, Bool.and_self, cond_true] at k; simp only [nI_succ] at k; exact k)
      · have A : Ag S2 (itr (sid1 E w) n S2) := Ag.itr (sid1_ag w) n S2
        generalize itr (sid1 E w) n S2 = S1 at A k0 ⊢
        have N1 := N0.ag A
        refine am_iload_n rfl rfl ?_
        refine am_aload_n rfl rfl rfl ?_
        refine am_get rfl rfl rfl ?_
        refine am_get rfl rfl rfl ?_
        refine am_icmp_ge rfl (fun _ => ?_) (fun h => absurd (nd_ge N1.1 N.2.1) h)
        refine am_iinc rfl rfl ?_
        refine am_goto rfl ?_
        simp only [nI_succ] at k0
        exact k0
    · have A : Ag S (itr (sid E n) n S) := Ag.itr sid_ag n S
      generalize itr (sid E n) n S = S1 at A ⊢
      have N1 := N.ag A
      refine am_iload_n rfl rfl ?_
      refine am_aload_n rfl rfl rfl ?_
      refine am_get rfl rfl rfl ?_
      refine am_get rfl rfl rfl ?_
      refine am_icmp_ge rfl (fun _ => ?_) (fun h => absurd (nd_ge N1.1 N.2.1) h)
      exact am_return rfl ⟨rfl, rfl⟩
  exact key none
/-- Sums.handUp(v) -/
def hup (p : Nat → Option Nat) (v : Nat) (S : am_S0) : am_S0 := match p v with
  | none => am_up S 22 (upd (S 22) v 1)
  | some u => am_up (am_up (am_up S 22 (upd (S 22) v 1)) 20 (upd (S 20) u (S 20 u + S 24 v))) 21 (upd (S 21) u (S 21 u - 1))
theorem hup_ag (p : Nat → Option Nat) (v : Nat) (S : am_S0) : Ag S (hup p v S) := by
  unfold hup
  cases p v with
  | none => exact Ag.rf.up (Or.inr (Or.inr rfl))
  | some u => exact ((Ag.rf.up (Or.inr (Or.inr rfl))).up (Or.inl rfl)).up (Or.inr (Or.inl rfl))
theorem s_handUp {p : Nat → Option Nat} (Pr : PrIs S n p) (x : Nat) (hx : x < n) (hn : n ≤ 12) : AW g d 0 0 92 0 (am_L0 92 [.ref 1, .int (nI x)]) [] (mem ch S) (am_is none (mem ch (hup p x S))) := by
  obtain ⟨hp1, hp2⟩ := Pr x hx
  unfold hup
  refine am_aload_n rfl rfl rfl ?_
  refine am_get rfl rfl rfl ?_
  refine am_iconst rfl ?_
  refine am_aald (k8 := 2) rfl rfl (Or.inl rfl) rfl (by decide) (by decide) rfl ?_
  refine am_iload_n rfl rfl ?_
  refine am_iconst rfl ?_
  refine am_iast rfl rfl rfl (by omega) (by decide) ?_
  refine am_aload_n rfl rfl rfl ?_
  refine am_get rfl rfl rfl ?_
  refine am_iload_n rfl rfl ?_
  refine am_iald rfl rfl rfl (by omega) (by decide) ?_
  refine am_Meq (M' := mem ch (am_up S 22 (upd (S 22) x 1))) rfl ?_
  rw [hp1]
  refine am_istore_n rfl ?_
  refine am_iload_n rfl rfl ?_
  refine am_iconst rfl ?_
  refine am_icmp_eq rfl (fun h14 => ?_) (fun h14 => ?_)
  · have h15 := (em_n1 (fun e he => by have := hp2 e he; omega)).mp h14
    rw [h15]
    exact am_return rfl ⟨rfl, rfl⟩
  · obtain ⟨u, hu, hu2⟩ := em_lt (fun e he => by have := hp2 e he; omega) h14
    have hul := hp2 u hu
    rw [hu]
    refine am_aload_n rfl rfl rfl ?_
    refine am_get rfl rfl rfl ?_
    refine am_iconst rfl ?_
    refine am_aald (k8 := 0) rfl rfl (Or.inl rfl) rfl (by decide) (by decide) rfl ?_
    refine am_iload_n rfl rfl ?_
    refine am_dup2 rfl rfl rfl ?_
    refine am_iald rfl rfl rfl hul (by decide) ?_
    refine am_aload_n rfl rfl rfl ?_
    refine am_get rfl rfl rfl ?_
    refine am_iconst rfl ?_
    refine am_aald (k8 := 0) rfl rfl (Or.inl rfl) rfl (by decide) (by decide) rfl ?_
    refine am_iload_n rfl rfl ?_
    refine am_iald rfl rfl rfl (by omega) (by decide) ?_
    refine am_iadd rfl ?_
    refine am_iast rfl rfl rfl hul (by decide) ?_
    refine am_aload_n rfl rfl rfl ?_
    refine am_get rfl rfl rfl ?_
    refine am_iconst rfl ?_
    refine am_aald (k8 := 1) rfl rfl (Or.inl rfl) rfl (by decide) (by decide) rfl ?_
    refine am_iload_n rfl rfl ?_
    refine am_dup2 rfl rfl rfl ?_
    refine am_iald rfl rfl rfl hul (by decide) ?_
    refine am_iconst rfl ?_
    refine am_isub rfl ?_
    refine am_iast rfl rfl rfl hul (by decide) ?_
    exact am_return rfl ⟨rfl, rfl⟩
def chg2 (p : Nat → Option Nat) (v : Nat) (S : am_S0) : am_S0 := bif due S v then hup p v S else S
theorem chg2_ag (p : Nat → Option Nat) (v : Nat) (S : am_S0) : Ag S (chg2 p v S) := by
  unfold chg2
  cases due S v
  · exact Ag.rf
  · exact hup_ag p v S
/-- Sums.change() -/
theorem s_chg2 (N : NetIs S n E) {p : Nat → Option Nat} (Pr : PrIs S n p) : AW g (d + 1) 0 0 91 0 (am_L0 91 [.ref 32, .ref 1]) [] (mem ch S) (am_is none (mem ch (itr (chg2 p) n S))) := by
  have hn := N.2.1
  refine am_iconst rfl ?_
  refine am_istore_n rfl ?_
  refine am_Meq (M' := mem ch (itr (chg2 p) 0 S)) rfl ?_
  show AW g (d + 1) 0 0 91 2 [some (.ref 32), some (.ref 1), some (.int (nI 0))] [] _ _
  refine am_for (n) (fun v => [some (.ref 32), some (.ref 1), some (.int (nI v))]) (fun v => mem ch (itr (chg2 p) v S)) (fun v hv k => ?_) ?_ n 0 (by omega)
  · rw [itr_s] at k
    have A : Ag S (itr (chg2 p) v S) := Ag.itr (chg2_ag p) v S
    generalize itr (chg2 p) v S = S1 at A k ⊢
    have N1 := N.ag A
    refine am_iload_n rfl rfl ?_
    refine am_aload_n rfl rfl rfl ?_
    refine am_get rfl rfl rfl ?_
    refine am_get rfl rfl rfl ?_
    refine am_icmp_ge rfl (fun h => absurd h (nd_lt N1.1 N.2.1 hv)) (fun _ => ?_)
    refine am_aload_n rfl rfl rfl ?_
    refine am_iload_n rfl rfl ?_
    refine am_Sx [.ref 1, .int (nI v)] rfl rfl rfl rfl (s_due (d := d) v (by omega)) ?_
    refine am_if_eq rfl (fun h10 => ?_) (fun h10 => ?_)
    · refine am_iinc rfl rfl ?_
      refine am_goto rfl ?_
      unfold chg2 at k
      first
        | (rw [bi_0 h10, cond_false] at k; simp only [nI_succ] at k; exact k)
        | (rw [bi_1 h10, cond_true] at k; simp only [nI_succ] at k; exact k)
    · refine am_aload_n rfl rfl rfl ?_
      refine am_iload_n rfl rfl ?_
      refine am_Sx [.ref 1, .int (nI v)] rfl rfl rfl rfl (s_handUp (d := d) (Pr.ag A) v hv hn) ?_
      refine am_iinc rfl rfl ?_
      refine am_goto rfl ?_
      unfold chg2 at k
      first
        | (rw [bi_0 h10, cond_false] at k; simp only [nI_succ] at k; exact k)
        | (rw [bi_1 h10, cond_true] at k; simp only [nI_succ] at k; exact k)
  · have A : Ag S (itr (chg2 p) n S) := Ag.itr (chg2_ag p) n S
    generalize itr (chg2 p) n S = S1 at A ⊢
    have N1 := N.ag A
    refine am_iload_n rfl rfl ?_
    refine am_aload_n rfl rfl rfl ?_
    refine am_get rfl rfl rfl ?_
    refine am_get rfl rfl rfl ?_
    refine am_icmp_ge rfl (fun _ => ?_) (fun h => absurd (nd_ge N1.1 N.2.1) h)
    exact am_return rfl ⟨rfl, rfl⟩
end CCHI
