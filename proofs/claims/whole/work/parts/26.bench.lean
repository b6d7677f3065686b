/-! the class: RoundBench itself -/
/-- what an algorithm's run needs: its root and its tree -/
def RunIs (S : am_S0) (n k rt : Nat) (p : Nat → Option Nat) : Prop := (k = 2 ∨ k = 3 → PrIs S n p) ∧ (k = 1 ∨ k = 2 ∨ k = 3 ∨ k = 7 → rt < n ∧ S 1 5 = nI rt)
theorem RunIs.eq {S S1 : am_S0} {n k rt : Nat} {p : Nat → Option Nat} (h : RunIs S n k rt p) (h28 : S1 28 = S 28) (h5 : S1 1 5 = S 1 5) : RunIs S1 n k rt p := ⟨fun q v hv => by rw [h28]; exact h.1 q v hv, fun q => by rw [h5]; exact h.2 q⟩
def tkb (k : Nat) (S : am_S0) (x : Int32) : Bool := match k with
  | 0 | 4 | 5 => true
  | 6 => decide (1 ≤ x) && decide (x ≤ 12)
  | _ => decide (0 ≤ x) && decide (x < S 2 4)
def ovr (k : Nat) (E : Nat → Nat → Option Nat) (n rt : Nat) (S : am_S0) : Bool := match k with
  | 2 => decide (S 26 rt = 1)
  | 3 => decide (4 ≤ S 1 6)
  | 4 => !anyb (fun v => decide (S 24 v = 0)) n
  | 5 => decide (nI (lam E n (S 24) (-1)) = 0)
  | 6 => !anyb (drp S E n) n
  | _ => decide (nI (frl E n (S 27)) = 0)
def ltr (k : Nat) (E : Nat → Nat → Option Nat) (n : Nat) (S : am_S0) : Int32 := match k with
  | 2 => nI (let2 S n)
  | 3 => S 2 4 - 1
  | 4 => nI (lam E n (S 24) 0)
  | 5 => nI (lam E n (S 24) (-1))
  | 6 => nI (let6 S E n n)
  | _ => nI (frl E n (S 27))
def chA (k : Nat) (E : Nat → Nat → Option Nat) (n : Nat) (p : Nat → Option Nat) (S : am_S0) : am_S0 := match k with
  | 0 => itr (lrn E n) n S
  | 1 => itr (srt E n) n S
  | 2 => itr (chg2 p) n S
  | 3 => itr (chg3 p) n S
  | 4 => itr (chg4 E n) n S
  | 5 => itr (chg5 E n) n S
  | 6 => itr (chg6 E n) n S
  | _ => itr (sid E n) n S
def stA (k : Nat) (E : Nat → Nat → Option Nat) (n rt : Nat) (S : am_S0) : am_S0 := match k with
  | 0 => st0 S
  | 1 => stR S (-1) (-1) 0 rt
  | 2 => am_up (stG S (-1) 0 0 E n rt) 21 (chd (nrr E n (msr E n n (far0 rt (S 18)))) n (pw 12 (fun _ => 0) (S 21)))
  | 3 => stG S (-1) (-1) (-1) E n rt
  | 4 => hld S 0 0 (-1)
  | 5 => hld S (-1) 0 (-1)
  | 6 => st6 S E n n
  | _ => stR S (-1) 0 0 rt
theorem chA_ag (k : Nat) (E : Nat → Nat → Option Nat) (n : Nat) (p : Nat → Option Nat) (S : am_S0) : Ag S (chA k E n p S) := by
  unfold chA
  split
  · exact Ag.itr lrn_ag n S
  · exact Ag.itr srt_ag n S
  · exact Ag.itr (chg2_ag p) n S
  · exact Ag.itr (chg3_ag p) n S
  · exact Ag.itr chg4_ag n S
  · exact Ag.itr chg5_ag n S
  · exact Ag.itr chg6_ag n S
  · exact Ag.itr sid_ag n S
section CRB
variable {g : am_G} {d : Nat} {ch : Option Nat} {S : am_S0} {n : Nat} {E : Nat → Nat → Option Nat} {m i k rt k9 pc : Nat} {p : Nat → Option Nat} {L : am_L} {K : am_K} {ws : List Nat}
/-- the call of an abstract method, by the algorithm -/
theorem d_takes (hk : k < 8) (x : Int32) (h : am_op m i = some (.invokevirtual k9, pc, 0, 2, 1, ws)) (kk : AW g (d + 1 + 1) 0 0 m (i + 1) L [.int (bi (tkb k S x))] (mem ch S) K) : AW g (d + 1 + 1) 0 0 m i L (.int x :: .ref 2 :: .ref (30 + k) :: []) (mem ch S) K := by
  match k, hk with
  | 0, _ => exact am_Ax [.ref 2, .int x] h rfl rfl rfl rfl rfl rfl rfl (s_takes0 (d := d + 1) x) kk
  | 1, _ => exact am_Ax [.ref 2, .int x] h rfl rfl rfl rfl rfl rfl rfl (s_takes1 (d := d) x) kk
  | 2, _ => exact am_Ax [.ref 2, .int x] h rfl rfl rfl rfl rfl rfl rfl (s_takes2 (d := d) x) kk
  | 3, _ => exact am_Ax [.ref 2, .int x] h rfl rfl rfl rfl rfl rfl rfl (s_takes3 (d := d) x) kk
  | 4, _ => exact am_Ax [.ref 2, .int x] h rfl rfl rfl rfl rfl rfl rfl (s_takes4 (d := d + 1) x) kk
  | 5, _ => exact am_Ax [.ref 2, .int x] h rfl rfl rfl rfl rfl rfl rfl (s_takes5 (d := d + 1) x) kk
  | 6, _ => exact am_Ax [.ref 2, .int x] h rfl rfl rfl rfl rfl rfl rfl (s_takes6 (d := d + 1) x) kk
  | 7, _ => exact am_Ax [.ref 2, .int x] h rfl rfl rfl rfl rfl rfl rfl (s_takes7 (d := d) x) kk
  | n + 8, hk => exact absurd hk (by omega)
/-- the call of an abstract method, by the algorithm -/
theorem d_over (hk : k < 8) (N : NetIs S n E) (R : RunIs S n k rt p) (h : am_op m i = some (.invokevirtual k9, pc, 2, 1, 1, ws)) (kk : AW g (d + 4 + 1) 0 0 m (i + 1) L [.int (bi (ovr k E n rt S))] (mem ch S) K) : AW g (d + 4 + 1) 0 0 m i L (.ref 1 :: .ref (30 + k) :: []) (mem ch S) K := by
  match k, hk with
  | 0, _ => exact am_Ax [.ref 1] h rfl rfl rfl rfl rfl rfl rfl (s_over0 (d := d + 1) N) kk
  | 1, _ => exact am_Ax [.ref 1] h rfl rfl rfl rfl rfl rfl rfl (s_over1 (d := d + 1) N) kk
  | 2, _ => exact am_Ax [.ref 1] h rfl rfl rfl rfl rfl rfl rfl (s_over2 (d := d + 4) rt (by have := R.2 (by decide); have := N.2.1; omega) (R.2 (by decide)).2) kk
  | 3, _ => exact am_Ax [.ref 1] h rfl rfl rfl rfl rfl rfl rfl (s_over3 (d := d + 4)) kk
  | 4, _ => exact am_Ax [.ref 1] h rfl rfl rfl rfl rfl rfl rfl (s_over4 (d := d + 4) N) kk
  | 5, _ => exact am_Ax [.ref 1] h rfl rfl rfl rfl rfl rfl rfl (s_over5 (d := d + 1) N) kk
  | 6, _ => exact am_Ax [.ref 1] h rfl rfl rfl rfl rfl rfl rfl (s_over6 (d := d + 1) N) kk
  | 7, _ => exact am_Ax [.ref 1] h rfl rfl rfl rfl rfl rfl rfl (s_over7 (d := d + 1) N) kk
  | n + 8, hk => exact absurd hk (by omega)
/-- the call of an abstract method, by the algorithm -/
theorem d_let (hk : k < 8) (N : NetIs S n E) (h : am_op m i = some (.invokevirtual k9, pc, 3, 1, 1, ws)) (kk : AW g (d + 4 + 1) 0 0 m (i + 1) L [.int (ltr k E n S)] (mem ch S) K) : AW g (d + 4 + 1) 0 0 m i L (.ref 1 :: .ref (30 + k) :: []) (mem ch S) K := by
  match k, hk with
  | 0, _ => exact am_Ax [.ref 1] h rfl rfl rfl rfl rfl rfl rfl (s_let0 (d := d + 1) N) kk
  | 1, _ => exact am_Ax [.ref 1] h rfl rfl rfl rfl rfl rfl rfl (s_let1 (d := d + 1) N) kk
  | 2, _ => exact am_Ax [.ref 1] h rfl rfl rfl rfl rfl rfl rfl (s_let2 (d := d + 3) N) kk
  | 3, _ => exact am_Ax [.ref 1] h rfl rfl rfl rfl rfl rfl rfl (s_let3 (d := d + 4)) kk
  | 4, _ => exact am_Ax [.ref 1] h rfl rfl rfl rfl rfl rfl rfl (s_let4 (d := d + 1) N) kk
  | 5, _ => exact am_Ax [.ref 1] h rfl rfl rfl rfl rfl rfl rfl (s_let5 (d := d + 1) N) kk
  | 6, _ => exact am_Ax [.ref 1] h rfl rfl rfl rfl rfl rfl rfl (s_let6 (d := d + 2) N) kk
  | 7, _ => exact am_Ax [.ref 1] h rfl rfl rfl rfl rfl rfl rfl (s_let7 (d := d + 1) N) kk
  | n + 8, hk => exact absurd hk (by omega)
/-- the call of an abstract method, by the algorithm -/
theorem d_chg (hk : k < 8) (N : NetIs S n E) (Es : ∀ u w, E u w = E w u) (R : RunIs S n k rt p) (h : am_op m i = some (.invokevirtual k9, pc, 4, 1, 1, ws)) (kk : AW g (d + 4 + 1) 0 0 m (i + 1) L [] (mem ch (chA k E n p S)) K) : AW g (d + 4 + 1) 0 0 m i L (.ref 1 :: .ref (30 + k) :: []) (mem ch S) K := by
  match k, hk with
  | 0, _ => exact am_Ax [.ref 1] h rfl rfl rfl rfl rfl rfl rfl (s_chg0 (d := d + 2) N) kk
  | 1, _ => exact am_Ax [.ref 1] h rfl rfl rfl rfl rfl rfl rfl (s_chg1 (d := d + 2) N Es) kk
  | 2, _ => exact am_Ax [.ref 1] h rfl rfl rfl rfl rfl rfl rfl (s_chg2 (d := d + 3) N (R.1 (by decide))) kk
  | 3, _ => exact am_Ax [.ref 1] h rfl rfl rfl rfl rfl rfl rfl (s_chg3 (d := d + 3) N (R.1 (by decide))) kk
  | 4, _ => exact am_Ax [.ref 1] h rfl rfl rfl rfl rfl rfl rfl (s_chg4 (d := d) N) kk
  | 5, _ => exact am_Ax [.ref 1] h rfl rfl rfl rfl rfl rfl rfl (s_chg5 (d := d + 2) N) kk
  | 6, _ => exact am_Ax [.ref 1] h rfl rfl rfl rfl rfl rfl rfl (s_chg6 (d := d + 1) N) kk
  | 7, _ => exact am_Ax [.ref 1] h rfl rfl rfl rfl rfl rfl rfl (s_chg7 (d := d + 3) N) kk
  | n + 8, hk => exact absurd hk (by omega)
/-- the call of an abstract method, by the algorithm -/
theorem d_start (hk : k < 8) (N : NetIs S n E) (R : k = 1 ∨ k = 2 ∨ k = 3 ∨ k = 7 → rt < n ∧ S 1 5 = nI rt) (h : am_op m i = some (.invokevirtual k9, pc, 1, 1, 1, ws)) (kk : AW g (d + 4 + 1) 0 0 m (i + 1) L [] (mem ch (stA k E n rt S)) K) : AW g (d + 4 + 1) 0 0 m i L (.ref 1 :: .ref (30 + k) :: []) (mem ch S) K := by
  match k, hk with
  | 0, _ => exact am_Ax [.ref 1] h rfl rfl rfl rfl rfl rfl rfl (s_start0 (d := d + 2)) kk
  | 1, _ => exact am_Ax [.ref 1] h rfl rfl rfl rfl rfl rfl rfl (s_start1 (d := d + 2) rt (by have := R (by decide); have := N.2.1; omega) (R (by decide)).2) kk
  | 2, _ => exact am_Ax [.ref 1] h rfl rfl rfl rfl rfl rfl rfl (s_start2 (d := d) N rt (by have := R (by decide); have := N.2.1; omega) (R (by decide)).2) kk
  | 3, _ => exact am_Ax [.ref 1] h rfl rfl rfl rfl rfl rfl rfl (s_start3 (d := d) N rt (by have := R (by decide); have := N.2.1; omega) (R (by decide)).2) kk
  | 4, _ => exact am_Ax [.ref 1] h rfl rfl rfl rfl rfl rfl rfl (s_start4 (d := d + 2)) kk
  | 5, _ => exact am_Ax [.ref 1] h rfl rfl rfl rfl rfl rfl rfl (s_start5 (d := d + 2)) kk
  | 6, _ => exact am_Ax [.ref 1] h rfl rfl rfl rfl rfl rfl rfl (s_start6 (d := d + 2) N) kk
  | 7, _ => exact am_Ax [.ref 1] h rfl rfl rfl rfl rfl rfl rfl (s_start7 (d := d + 2) rt (by have := R (by decide); have := N.2.1; omega) (R (by decide)).2) kk
  | n + 8, hk => exact absurd hk (by omega)
/-- forgetReadiness() -/
def fgt (S : am_S0) : am_S0 := am_up S 0 (upd (S 0) 3 0)
theorem s_forget : AW g d 0 0 17 0 (am_L0 17 [.ref 0]) [] (mem ch S) (am_is none (mem none (fgt S))) := by
  refine am_aload_n rfl rfl rfl ?_
  refine am_iconst rfl ?_
  refine am_put rfl rfl (Nat.le_of_ble_eq_true rfl) rfl ?_
  refine am_aload_n rfl rfl rfl ?_
  refine am_null rfl ?_
  refine am_put rfl rfl (Nat.le_of_ble_eq_true rfl) rfl ?_
  exact am_return rfl ⟨rfl, rfl⟩
/-- net(n) -/
theorem s_net (x : Int32) : AW g (d + 2) 0 0 16 0 (am_L0 16 [.ref 0, .int x]) [] (mem ch S) (am_is (some (.int (bi (decide (1 ≤ x) && decide (x ≤ 12))))) (bif decide (1 ≤ x) && decide (x ≤ 12) then mem none (fgt (itr clr1 12 (clr0 S x))) else mem ch S)) := by
  refine am_iload_n rfl rfl ?_
  refine am_iconst rfl ?_
  refine am_icmp_lt rfl (fun h2 => ?_) (fun h2 => ?_)
  · refine am_iconst rfl ?_
    refine am_ireturn rfl (fun _ => by decide) ?_
    first
      | (rw [decide_eq_false (Int32.not_le.mpr h2), Bool.false_and]; exact ⟨rfl, rfl⟩)
      | (rw [decide_eq_false h5, Bool.and_false]; exact ⟨rfl, rfl⟩)
  · refine am_iload_n rfl rfl ?_
    refine am_bipush rfl ?_
    refine am_icmp_le rfl (fun h5 => ?_) (fun h5 => ?_)
    · refine am_aload_n rfl rfl rfl ?_
      refine am_get rfl rfl rfl ?_
      refine am_get rfl rfl rfl ?_
      refine am_iload_n rfl rfl ?_
      refine am_Vx [.int x] rfl rfl rfl rfl rfl rfl (s_clear (d := d) x) ?_
      refine am_aload_n rfl rfl rfl ?_
      refine am_Vx [] rfl rfl rfl rfl rfl rfl (s_forget (d := _)) ?_
      refine am_iconst rfl ?_
      refine am_ireturn rfl (fun _ => by decide) ?_
      rw [decide_eq_true (Int32.not_lt.mp h2), decide_eq_true h5]
      exact ⟨rfl, rfl⟩
    · refine am_iconst rfl ?_
      refine am_ireturn rfl (fun _ => by decide) ?_
      first
        | (rw [decide_eq_false (Int32.not_le.mpr h2), Bool.false_and]; exact ⟨rfl, rfl⟩)
        | (rw [decide_eq_false h5, Bool.and_false]; exact ⟨rfl, rfl⟩)
/-- edge(a, b, weight) -/
theorem s_edgeNo (N : NetIs S n E) (x y w : Int32) (ht : tks S E x y w = false) : AW g (d + 2) 0 0 18 0 (am_L0 18 [.ref 0, .int x, .int y, .int w]) [] (mem ch S) (am_is (some (.int (-1))) (mem ch S)) := by
  refine am_aload_n rfl rfl rfl ?_
  refine am_get rfl rfl rfl ?_
  refine am_get rfl rfl rfl ?_
  refine am_iload_n rfl rfl ?_
  refine am_iload_n rfl rfl ?_
  refine am_iload_n rfl rfl ?_
  refine am_Vx [.int x, .int y, .int w] rfl rfl rfl rfl rfl rfl (s_takesEdge (d := d) N x y w) ?_
  rw [ht]
  refine am_if_ne rfl (fun h => absurd rfl h) (fun _ => ?_)
  refine am_iconst rfl ?_
  refine am_ireturn rfl (fun h => absurd h (by decide)) ⟨?_, rfl⟩
  rfl
theorem s_edgeYes (N : NetIs S n E) (a b q : Nat) (w : Int32) (ha : a < 12) (hb : b < 12) (hab : a ≠ b) (hq : q < 24) (hS : S 2 5 = nI q) (ht : tks S E (nI a) (nI b) w = true) : AW g (d + 2) 0 0 18 0 (am_L0 18 [.ref 0, .int (nI a), .int (nI b), .int w]) [] (mem ch S) (am_is (some (.int (nI q))) (mem none (addE (fgt S) a b q w))) := by
  refine am_aload_n rfl rfl rfl ?_
  refine am_get rfl rfl rfl ?_
  refine am_get rfl rfl rfl ?_
  refine am_iload_n rfl rfl ?_
  refine am_iload_n rfl rfl ?_
  refine am_iload_n rfl rfl ?_
  refine am_Vx [.int (nI a), .int (nI b), .int w] rfl rfl rfl rfl rfl rfl (s_takesEdge (d := d) N (nI a) (nI b) w) ?_
  rw [ht]
  refine am_if_ne rfl (fun _ => ?_) (fun h => absurd h (by decide))
  refine am_aload_n rfl rfl rfl ?_
  refine am_Vx [] rfl rfl rfl rfl rfl rfl (s_forget (d := _)) ?_
  refine am_aload_n rfl rfl rfl ?_
  refine am_get rfl rfl rfl ?_
  refine am_get rfl rfl rfl ?_
  refine am_iload_n rfl rfl ?_
  refine am_iload_n rfl rfl ?_
  refine am_iload_n rfl rfl ?_
  refine am_Vx [.int (nI a), .int (nI b), .int w] rfl rfl rfl rfl rfl rfl (s_addEdge (d := d + 1) a b q w ha hb hab hq hS) ?_
  refine am_ireturn rfl (fun h => absurd h (by decide)) ⟨?_, rfl⟩
  rfl
/-- identity(v, id) -/
def idn (S : am_S0) (x y : Int32) : Bool := (decide (0 ≤ x) && decide (x < S 2 4)) && decide (1 ≤ y) && decide (y ≤ 999)
theorem s_identity (hN : S 2 4 = nI n) (hn : n ≤ 12) (x y : Int32) : AW g (d + 2) 0 0 23 0 (am_L0 23 [.ref 0, .int x, .int y]) [] (mem ch S) (am_is (some (.int (bi (idn S x y)))) (bif idn S x y then mem none (fgt (am_up S 3 (upd (S 3) x.toNatClampNeg y))) else mem ch S)) := by
  unfold idn
  refine am_aload_n rfl rfl rfl ?_
  refine am_get rfl rfl rfl ?_
  refine am_get rfl rfl rfl ?_
  refine am_iload_n rfl rfl ?_
  refine am_Vx [.int x] rfl rfl rfl rfl rfl rfl (s_hasNode (d := d + 1) x) ?_
  refine am_if_eq rfl (fun h5 => ?_) (fun h5 => ?_)
  · refine am_iconst rfl ?_
    refine am_ireturn rfl (fun _ => by decide) ?_
    first
      | (rw [bi_0 h5]; simp only [Bool.false_and, cond_false]; exact ⟨rfl, rfl⟩)
      | (rw [decide_eq_false (Int32.not_le.mpr h8)]; simp only [Bool.and_false, Bool.false_and, cond_false]; exact ⟨rfl, rfl⟩)
      | (rw [decide_eq_false h11]; simp only [Bool.and_false, cond_false]; exact ⟨rfl, rfl⟩)
  · refine am_iload_n rfl rfl ?_
    refine am_iconst rfl ?_
    refine am_icmp_lt rfl (fun h8 => ?_) (fun h8 => ?_)
    · refine am_iconst rfl ?_
      refine am_ireturn rfl (fun _ => by decide) ?_
      first
        | (rw [bi_0 h5]; simp only [Bool.false_and, cond_false]; exact ⟨rfl, rfl⟩)
        | (rw [decide_eq_false (Int32.not_le.mpr h8)]; simp only [Bool.and_false, Bool.false_and, cond_false]; exact ⟨rfl, rfl⟩)
        | (rw [decide_eq_false h11]; simp only [Bool.and_false, cond_false]; exact ⟨rfl, rfl⟩)
    · refine am_iload_n rfl rfl ?_
      refine am_sipush rfl ?_
      refine am_icmp_le rfl (fun h11 => ?_) (fun h11 => ?_)
      · refine am_aload_n rfl rfl rfl ?_
        refine am_get rfl rfl rfl ?_
        refine am_get rfl rfl rfl ?_
        refine am_get rfl rfl rfl ?_
        refine am_iload_n rfl rfl ?_
        refine am_iload_n rfl rfl ?_
        rw [bi_1 h5, decide_eq_true (Int32.not_lt.mp h8), decide_eq_true h11]
        obtain ⟨v, hv, rfl⟩ := hasN_of hN hn (bi_1 h5)
        refine am_iast rfl rfl rfl (by omega) (by decide) ?_
        rw [nI_clamp (by omega)]
        refine am_Meq (M' := mem ch (am_up S 3 (upd (S 3) v y))) rfl ?_
        refine am_aload_n rfl rfl rfl ?_
        refine am_Vx [] rfl rfl rfl rfl rfl rfl (s_forget (d := _)) ?_
        refine am_iconst rfl ?_
        exact am_ireturn rfl (fun _ => by decide) ⟨rfl, rfl⟩
      · refine am_iconst rfl ?_
        refine am_ireturn rfl (fun _ => by decide) ?_
        first
          | (rw [bi_0 h5]; simp only [Bool.false_and, cond_false]; exact ⟨rfl, rfl⟩)
          | (rw [decide_eq_false (Int32.not_le.mpr h8)]; simp only [Bool.and_false, Bool.false_and, cond_false]; exact ⟨rfl, rfl⟩)
          | (rw [decide_eq_false h11]; simp only [Bool.and_false, cond_false]; exact ⟨rfl, rfl⟩)
/-- ready() -/
def rdy (S : am_S0) (E : Nat → Nat → Option Nat) (n : Nat) : Nat := bif anyb (fun v => decide (msr E n n (far0 0 (S 18)) v = -1)) n then 1 else bif twn (S 3) n then 2 else 0
theorem s_ready (N : NetIs S n E) : AW g (d + 4) 0 0 24 0 (am_L0 24 [.ref 0]) [] (mem ch S) (am_is (some (.int (nI (rdy S E n)))) (mem ch (bif decide (rdy S E n = 0) then am_up (am_up S 18 (msr E n n (far0 0 (S 18)))) 0 (upd (S 0) 3 1) else am_up S 18 (msr E n n (far0 0 (S 18)))))) := by
  unfold rdy
  refine am_aload_n rfl rfl rfl ?_
  refine am_get rfl rfl rfl ?_
  refine am_get rfl rfl rfl ?_
  refine am_Vx [] rfl rfl rfl rfl rfl rfl (s_connected (d := d) N) ?_
  refine am_if_ne rfl (fun h4 => ?_) (fun h4 => ?_)
  · refine am_aload_n rfl rfl rfl ?_
    refine am_get rfl rfl rfl ?_
    refine am_get rfl rfl rfl ?_
    refine am_Vx [] rfl rfl rfl rfl rfl rfl (s_twins (d := d + 3) (N.up (k := 18) (by decide))) ?_
    refine am_if_eq rfl (fun h11 => ?_) (fun h11 => ?_)
    · refine am_aload_n rfl rfl rfl ?_
      refine am_iconst rfl ?_
      refine am_put rfl rfl (Nat.le_of_ble_eq_true rfl) rfl ?_
      refine am_iconst rfl ?_
      refine am_ireturn rfl (fun h => absurd h (by decide)) ?_
      have e := bi_1 h4
      rw [Bool.not_eq_true'] at e
      have e2 : twn (S 3) n = false := bi_0 h11
      rw [e, e2]
      exact ⟨rfl, rfl⟩
    · refine am_iconst rfl ?_
      refine am_ireturn rfl (fun h => absurd h (by decide)) ?_
      have e := bi_1 h4
      rw [Bool.not_eq_true'] at e
      have e2 : twn (S 3) n = true := bi_1 h11
      rw [e, e2]
      exact ⟨rfl, rfl⟩
  · refine am_iconst rfl ?_
    refine am_ireturn rfl (fun h => absurd h (by decide)) ?_
    have e := bi_0 h4
    rw [Bool.not_eq_false'] at e
    rw [e]
    exact ⟨rfl, rfl⟩
end CRB
