/-! the model: the net -/
/-- the model's net: n nodes, q edges, from fa to fb -/
def MN (S : am_S0) (n q : Nat) (fa fb : Nat → Nat) : Prop := S 38 0 = nI n ∧ n ≤ 12 ∧ S 38 1 = nI q ∧ q ≤ 24 ∧ ∀ e, e < q → S 39 e = nI (fa e) ∧ S 40 e = nI (fb e) ∧ fa e < 12 ∧ fb e < 12
theorem MN.up {S : am_S0} {n q : Nat} {fa fb : Nat → Nat} {k : Nat} {f : Nat → Int32} (h : MN S n q fa fb) (hk : k ≠ 38 ∧ k ≠ 39 ∧ k ≠ 40) : MN (am_up S k f) n q fa fb := by
  unfold MN
  rw [am_up_ne _ _ (Ne.symm hk.1), am_up_ne _ _ (Ne.symm hk.2.1), am_up_ne _ _ (Ne.symm hk.2.2)]
  exact h
theorem MN.eq {S S1 : am_S0} {n q : Nat} {fa fb : Nat → Nat} (h : MN S n q fa fb) (h0 : S1 38 0 = S 38 0) (h1 : S1 38 1 = S 38 1) (h2 : S1 39 = S 39) (h3 : S1 40 = S 40) : MN S1 n q fa fb := by
  unfold MN
  rw [h0, h1, h2, h3]
  exact h
theorem ed_lt {S : am_S0} {n q v : Nat} {fa fb : Nat → Nat} (N : MN S n q fa fb) (hv : v < q) : ¬ S 38 1 ≤ nI v := by rw [N.2.2.1]; exact nI_ge hv (by have := N.2.2.2.1; omega)
theorem ed_ge {S : am_S0} {n q : Nat} {fa fb : Nat → Nat} (N : MN S n q fa fb) : S 38 1 ≤ nI q := by rw [N.2.2.1]; exact nI_le (Nat.le_refl _) (by have := N.2.2.2.1; omega)
theorem ix12 (a b : Nat) : (12 : Int32) * nI a + nI b = nI (12 * a + b) := by
  rw [show (12 : Int32) = nI 12 from rfl, pk_mul, nI_add]
/-- the number of the edge between u and w -/
def bt (fa fb : Nat → Nat) (q u w : Nat) : Option Nat := fst? (fun e => (decide (fa e = u) && decide (fb e = w)) || (decide (fa e = w) && decide (fb e = u))) q
section MNET
variable {g : am_G} {d : Nat} {ch : Option Nat} {S : am_S0} {n q : Nat} {fa fb : Nat → Nat}
/-- m_isNode -/
theorem m_isNode (x : Int32) : AW g d 0 0 107 0 (am_L0 107 [.ref 38, .int x]) [] (mem ch S) (am_is (some (.int (bi (decide (0 ≤ x) && decide (x < S 38 0))))) (mem ch S)) := by
  refine am_iload_n rfl rfl ?_
  refine am_if_lt rfl (fun h1 => ?_) (fun h1 => ?_)
  · refine am_iconst rfl ?_
    refine am_ireturn rfl (fun _ => by decide) ⟨?_, rfl⟩
    first | rw [decide_eq_true (Int32.not_lt.mp h1), decide_eq_true (Int32.not_le.mp h5)]; rfl | rw [decide_eq_false (fun q => absurd q (Int32.not_lt.mpr h5)), Bool.and_false]; rfl | rw [decide_eq_false (fun q => absurd h1 (Int32.not_lt.mpr q)), Bool.false_and]; rfl
  · refine am_iload_n rfl rfl ?_
    refine am_aload_n rfl rfl rfl ?_
    refine am_get rfl rfl rfl ?_
    refine am_icmp_ge rfl (fun h5 => ?_) (fun h5 => ?_)
    · refine am_iconst rfl ?_
      refine am_ireturn rfl (fun _ => by decide) ⟨?_, rfl⟩
      first | rw [decide_eq_true (Int32.not_lt.mp h1), decide_eq_true (Int32.not_le.mp h5)]; rfl | rw [decide_eq_false (fun q => absurd q (Int32.not_lt.mpr h5)), Bool.and_false]; rfl | rw [decide_eq_false (fun q => absurd h1 (Int32.not_lt.mpr q)), Bool.false_and]; rfl
    · refine am_iconst rfl ?_
      refine am_goto rfl ?_
      refine am_ireturn rfl (fun _ => by decide) ⟨?_, rfl⟩
      first | rw [decide_eq_true (Int32.not_lt.mp h1), decide_eq_true (Int32.not_le.mp h5)]; rfl | rw [decide_eq_false (fun q => absurd q (Int32.not_lt.mpr h5)), Bool.and_false]; rfl | rw [decide_eq_false (fun q => absurd h1 (Int32.not_lt.mpr q)), Bool.false_and]; rfl
def mch (S : am_S0) : am_S0 := am_up S 38 (upd (upd (S 38) 6 0) 8 (-1))
/-- m_change -/
theorem m_change  : AW g d 0 0 105 0 (am_L0 105 [.ref 38]) [] (mem ch S) (am_is none (mem ch (mch S))) := by
  refine am_aload_n rfl rfl rfl ?_
  refine am_iconst rfl ?_
  refine am_put rfl rfl (Nat.le_of_ble_eq_true rfl) rfl ?_
  refine am_aload_n rfl rfl rfl ?_
  refine am_iconst rfl ?_
  refine am_put rfl rfl (Nat.le_of_ble_eq_true rfl) rfl ?_
  exact am_return rfl ⟨rfl, rfl⟩
theorem bt_lt {fa fb : Nat → Nat} {q u w e : Nat} (h : bt fa fb q u w = some e) : e < q := (fst?_lt h).1
/-- m_between -/
theorem m_between (N : MN S n q fa fb) (u w : Nat) (hu : u < 12) (hw : w < 12) : AW g d 0 0 109 0 (am_L0 109 [.ref 38, .int (nI u), .int (nI w)]) [] (mem ch S) (am_is (some (.int (em (bt fa fb q u w)))) (mem ch S)) := by
  refine am_iconst rfl ?_
  refine am_istore_n rfl ?_
  show AW g d 0 0 109 2 [some (.ref 38), some (.int (nI u)), some (.int (nI w)), some (.int (nI 0))] [] (mem ch S) _
  refine am_forI (q) (fun v => [some (.ref 38), some (.int (nI u)), some (.int (nI w)), some (.int (nI v))]) (fun v => mem ch S) (fun v => ∀ e, e < v → ((decide (fa e = u) && decide (fb e = w)) || (decide (fa e = w) && decide (fb e = u))) = false) (fun v hv hi k => ?_) (fun hi => ?_) q 0 (by omega) (fun e h => absurd h (Nat.not_lt_zero _))
  · obtain ⟨e1, e2, l1, l2⟩ := N.2.2.2.2 v hv
    have hq := N.2.2.2.1
    refine am_iload_n rfl rfl ?_
    refine am_aload_n rfl rfl rfl ?_
    refine am_get rfl rfl rfl ?_
    refine am_icmp_ge rfl (fun h => absurd h (ed_lt N hv)) (fun _ => ?_)
    refine am_aload_n rfl rfl rfl ?_
    refine am_get rfl rfl rfl ?_
    refine am_iload_n rfl rfl ?_
    refine am_iald rfl rfl rfl (by omega) (by decide) ?_
    rw [e1]
    refine am_iload_n rfl rfl ?_
    refine am_icmp_ne rfl (fun h11 => ?_) (fun h11 => ?_)
    · refine am_aload_n rfl rfl rfl ?_
      refine am_get rfl rfl rfl ?_
      refine am_iload_n rfl rfl ?_
      refine am_iald rfl rfl rfl (by omega) (by decide) ?_
      rw [e1]
      refine am_iload_n rfl rfl ?_
      refine am_icmp_ne rfl (fun h23 => ?_) (fun h23 => ?_)
      · refine am_iinc rfl rfl ?_
        refine am_goto rfl ?_
        have k := k (fun e he => by
          by_cases e9 : e = v
          · subst e9
            first
              | (rw [nI_eq (by omega) (by omega)] at h11 h23; rw [decide_eq_false h11, decide_eq_false h23]; rfl)
              | (rw [nI_eq (by omega) (by omega)] at h11 h29; rw [decide_eq_false h11, decide_eq_false h29, Bool.and_false]; rfl)
              | (rw [nI_eq (by omega) (by omega)] at h17 h23; rw [decide_eq_false h17, decide_eq_false h23, Bool.and_false]; rfl)
              | (rw [nI_eq (by omega) (by omega)] at h17 h29; rw [decide_eq_false h17, decide_eq_false h29, Bool.and_false, Bool.and_false]; rfl)
          · exact hi e (by omega))
        simp only [nI_succ] at k
        exact k
      · refine am_aload_n rfl rfl rfl ?_
        refine am_get rfl rfl rfl ?_
        refine am_iload_n rfl rfl ?_
        refine am_iald rfl rfl rfl (by omega) (by decide) ?_
        rw [e2]
        refine am_iload_n rfl rfl ?_
        refine am_icmp_ne rfl (fun h29 => ?_) (fun h29 => ?_)
        · refine am_iinc rfl rfl ?_
          refine am_goto rfl ?_
          have k := k (fun e he => by
            by_cases e9 : e = v
            · subst e9
              first
                | (rw [nI_eq (by omega) (by omega)] at h11 h23; rw [decide_eq_false h11, decide_eq_false h23]; rfl)
                | (rw [nI_eq (by omega) (by omega)] at h11 h29; rw [decide_eq_false h11, decide_eq_false h29, Bool.and_false]; rfl)
                | (rw [nI_eq (by omega) (by omega)] at h17 h23; rw [decide_eq_false h17, decide_eq_false h23, Bool.and_false]; rfl)
                | (rw [nI_eq (by omega) (by omega)] at h17 h29; rw [decide_eq_false h17, decide_eq_false h29, Bool.and_false, Bool.and_false]; rfl)
            · exact hi e (by omega))
          simp only [nI_succ] at k
          exact k
        · refine am_iload_n rfl rfl ?_
          refine am_ireturn rfl (fun h => absurd h (by decide)) ⟨?_, rfl⟩
          unfold bt
          rw [fst?_some (v := v) ?_ hi hv]
          · rfl
          · first
              | (rw [nI_eq (by omega) (by omega)] at h11 h17; rw [decide_eq_true h11, decide_eq_true h17]; rfl)
              | (rw [nI_eq (by omega) (by omega)] at h23 h29; rw [decide_eq_true h23, decide_eq_true h29, Bool.and_self, Bool.or_true])
    · refine am_aload_n rfl rfl rfl ?_
      refine am_get rfl rfl rfl ?_
      refine am_iload_n rfl rfl ?_
      refine am_iald rfl rfl rfl (by omega) (by decide) ?_
      rw [e2]
      refine am_iload_n rfl rfl ?_
      refine am_icmp_eq rfl (fun h17 => ?_) (fun h17 => ?_)
      · refine am_iload_n rfl rfl ?_
        refine am_ireturn rfl (fun h => absurd h (by decide)) ⟨?_, rfl⟩
        unfold bt
        rw [fst?_some (v := v) ?_ hi hv]
        · rfl
        · first
            | (rw [nI_eq (by omega) (by omega)] at h11 h17; rw [decide_eq_true h11, decide_eq_true h17]; rfl)
            | (rw [nI_eq (by omega) (by omega)] at h23 h29; rw [decide_eq_true h23, decide_eq_true h29, Bool.and_self, Bool.or_true])
      · refine am_aload_n rfl rfl rfl ?_
        refine am_get rfl rfl rfl ?_
        refine am_iload_n rfl rfl ?_
        refine am_iald rfl rfl rfl (by omega) (by decide) ?_
        rw [e1]
        refine am_iload_n rfl rfl ?_
        refine am_icmp_ne rfl (fun h23 => ?_) (fun h23 => ?_)
        · refine am_iinc rfl rfl ?_
          refine am_goto rfl ?_
          have k := k (fun e he => by
            by_cases e9 : e = v
            · subst e9
              first
                | (rw [nI_eq (by omega) (by omega)] at h11 h23; rw [decide_eq_false h11, decide_eq_false h23]; rfl)
                | (rw [nI_eq (by omega) (by omega)] at h11 h29; rw [decide_eq_false h11, decide_eq_false h29, Bool.and_false]; rfl)
                | (rw [nI_eq (by omega) (by omega)] at h17 h23; rw [decide_eq_false h17, decide_eq_false h23, Bool.and_false]; rfl)
                | (rw [nI_eq (by omega) (by omega)] at h17 h29; rw [decide_eq_false h17, decide_eq_false h29, Bool.and_false, Bool.and_false]; rfl)
            · exact hi e (by omega))
          simp only [nI_succ] at k
          exact k
        · refine am_aload_n rfl rfl rfl ?_
          refine am_get rfl rfl rfl ?_
          refine am_iload_n rfl rfl ?_
          refine am_iald rfl rfl rfl (by omega) (by decide) ?_
          rw [e2]
          refine am_iload_n rfl rfl ?_
          refine am_icmp_ne rfl (fun h29 => ?_) (fun h29 => ?_)
          · refine am_iinc rfl rfl ?_
            refine am_goto rfl ?_
            have k := k (fun e he => by
              by_cases e9 : e = v
              · subst e9
                first
                  | (rw [nI_eq (by omega) (by omega)] at h11 h23; rw [decide_eq_false h11, decide_eq_false h23]; rfl)
                  | (rw [nI_eq (by omega) (by omega)] at h11 h29; rw [decide_eq_false h11, decide_eq_false h29, Bool.and_false]; rfl)
                  | (rw [nI_eq (by omega) (by omega)] at h17 h23; rw [decide_eq_false h17, decide_eq_false h23, Bool.and_false]; rfl)
                  | (rw [nI_eq (by omega) (by omega)] at h17 h29; rw [decide_eq_false h17, decide_eq_false h29, Bool.and_false, Bool.and_false]; rfl)
              · exact hi e (by omega))
            simp only [nI_succ] at k
            exact k
          · refine am_iload_n rfl rfl ?_
            refine am_ireturn rfl (fun h => absurd h (by decide)) ⟨?_, rfl⟩
            unfold bt
            rw [fst?_some (v := v) ?_ hi hv]
            · rfl
            · first
                | (rw [nI_eq (by omega) (by omega)] at h11 h17; rw [decide_eq_true h11, decide_eq_true h17]; rfl)
                | (rw [nI_eq (by omega) (by omega)] at h23 h29; rw [decide_eq_true h23, decide_eq_true h29, Bool.and_self, Bool.or_true])
  · refine am_iload_n rfl rfl ?_
    refine am_aload_n rfl rfl rfl ?_
    refine am_get rfl rfl rfl ?_
    refine am_icmp_ge rfl (fun _ => ?_) (fun h => absurd (ed_ge N) h)
    refine am_iconst rfl ?_
    refine am_ireturn rfl (fun h => absurd h (by decide)) ⟨?_, rfl⟩
    unfold bt
    rw [fst?_none hi]
    rfl
theorem em_neg {x : Option Nat} (h : ∀ e, x = some e → e < 24) : (em x < 0) ↔ x = none := by
  cases x with
  | none => exact ⟨fun _ => rfl, fun _ => by decide⟩
  | some e => exact ⟨fun q => absurd q (nI_pos (by have := h e rfl; omega)), fun q => by cases q⟩
/-- m_areN -/
theorem m_areN (N : MN S n q fa fb) (u w : Nat) (hu : u < 12) (hw : w < 12) : AW g (d + 1) 0 0 108 0 (am_L0 108 [.ref 38, .int (nI u), .int (nI w)]) [] (mem ch S) (am_is (some (.int (bi (bt fa fb q u w).isSome))) (mem ch S)) := by
  refine am_aload_n rfl rfl rfl ?_
  refine am_iload_n rfl rfl ?_
  refine am_iload_n rfl rfl ?_
  refine am_Vx [.int (nI u), .int (nI w)] rfl rfl rfl rfl rfl rfl (m_between (d := d) N u w hu hw) ?_
  refine am_if_lt rfl (fun h4 => ?_) (fun h4 => ?_)
  · refine am_iconst rfl ?_
    refine am_ireturn rfl (fun _ => by decide) ⟨?_, rfl⟩
    have hb : ∀ e, bt fa fb q u w = some e → e < 24 := fun e he => by have := bt_lt he; have := N.2.2.2.1; omega
    first
      | (rw [(em_neg hb).mp h4]; rfl)
      | (rw [Option.isSome_iff_ne_none.mpr (fun e => h4 ((em_neg hb).mpr e))]; rfl)
  · refine am_iconst rfl ?_
    refine am_goto rfl ?_
    refine am_ireturn rfl (fun _ => by decide) ⟨?_, rfl⟩
    have hb : ∀ e, bt fa fb q u w = some e → e < 24 := fun e he => by have := bt_lt he; have := N.2.2.2.1; omega
    first
      | (rw [(em_neg hb).mp h4]; rfl)
      | (rw [Option.isSome_iff_ne_none.mpr (fun e => h4 ((em_neg hb).mpr e))]; rfl)
/-- m_degree -/
theorem m_degree (N : MN S n q fa fb) (x : Nat) (hx : x < 12) : AW g (d + 2) 0 0 130 0 (am_L0 130 [.ref 38, .int (nI x)]) [] (mem ch S) (am_is (some (.int (nI (cnt (fun u => (bt fa fb q u x).isSome) n)))) (mem ch S)) := by
  have hn := N.2.1
  refine am_iconst rfl ?_
  refine am_istore_n rfl ?_
  refine am_iconst rfl ?_
  refine am_istore_n rfl ?_
  show AW g (d + 2) 0 0 130 4 [some (.ref 38), some (.int (nI x)), some (.int (nI (cnt (fun u => (bt fa fb q u x).isSome) 0))), some (.int (nI 0))] [] (mem ch S) _
  refine am_for (n) (fun v => [some (.ref 38), some (.int (nI x)), some (.int (nI (cnt (fun u => (bt fa fb q u x).isSome) v))), some (.int (nI v))]) (fun v => mem ch S) (fun v hv k => ?_) ?_ n 0 (by omega)
  · refine am_iload_n rfl rfl ?_
    refine am_aload_n rfl rfl rfl ?_
    refine am_get rfl rfl rfl ?_
    refine am_icmp_ge rfl (fun h => absurd h (nm_lt N.1 N.2.1 hv)) (fun _ => ?_)
    refine am_aload_n rfl rfl rfl ?_
    refine am_iload_n rfl rfl ?_
    refine am_iload_n rfl rfl ?_
    refine am_Vx [.int (nI v), .int (nI x)] rfl rfl rfl rfl rfl rfl (m_areN (d := d) N v x (by omega) hx) ?_
    refine am_if_eq rfl (fun h12 => ?_) (fun h12 => ?_)
    · refine am_iload_n rfl rfl ?_
      refine am_istore_n rfl ?_
      refine am_iinc rfl rfl ?_
      refine am_goto rfl ?_
      first
        | (simp only [cnt, bi_0 h12, cond_false, nI_succ] at k; exact k)
        | (simp only [cnt, bi_1 h12, cond_true, nI_succ] at k; exact k)
    · refine am_iload_n rfl rfl ?_
      refine am_iconst rfl ?_
      refine am_iadd rfl ?_
      refine am_goto rfl ?_
      refine am_istore_n rfl ?_
      refine am_iinc rfl rfl ?_
      refine am_goto rfl ?_
      first
        | (simp only [cnt, bi_0 h12, cond_false, nI_succ] at k; exact k)
        | (simp only [cnt, bi_1 h12, cond_true, nI_succ] at k; exact k)
  · refine am_iload_n rfl rfl ?_
    refine am_aload_n rfl rfl rfl ?_
    refine am_get rfl rfl rfl ?_
    refine am_icmp_ge rfl (fun _ => ?_) (fun h => absurd (nm_ge N.1 N.2.1) h)
    refine am_iload_n rfl rfl ?_
    refine am_ireturn rfl (fun h => absurd h (by decide)) ⟨?_, rfl⟩
    rfl
/-- m_far -/
theorem m_far (u w : Nat) (hu : u < 12) (hw : w < 12) : AW g d 0 0 116 0 (am_L0 116 [.ref 38, .int (nI u), .int (nI w)]) [] (mem ch S) (am_is (some (.int (S 43 (12 * u + w)))) (mem ch S)) := by
  refine am_aload_n rfl rfl rfl ?_
  refine am_get rfl rfl rfl ?_
  refine am_bipush rfl ?_
  refine am_iload_n rfl rfl ?_
  refine am_imul rfl ?_
  refine am_iload_n rfl rfl ?_
  refine am_iadd rfl ?_
  refine am_iald rfl rfl (ix12 _ _) (by omega) (by decide) ?_
  refine am_ireturn rfl (fun h => absurd h (by decide)) ⟨?_, rfl⟩
  rfl
def mnr (fa fb : Nat → Nat) (q n : Nat) (f : Nat → Int32) (x t : Nat) : Option Nat := fst? (fun u => (bt fa fb q u x).isSome && decide (f (12 * u + t) = f (12 * x + t) - 1)) n
/-- m_nearer -/
theorem m_nearer (N : MN S n q fa fb) (x t : Nat) (hx : x < 12) (ht : t < 12) : AW g (d + 2) 0 0 115 0 (am_L0 115 [.ref 38, .int (nI x), .int (nI t)]) [] (mem ch S) (am_is (some (.int (em (mnr fa fb q n (S 43) x t)))) (mem ch S)) := by
  have hn := N.2.1
  unfold mnr
  refine am_iconst rfl ?_
  refine am_istore_n rfl ?_
  show AW g (d + 2) 0 0 115 2 [some (.ref 38), some (.int (nI x)), some (.int (nI t)), some (.int (nI 0))] [] (mem ch S) _
  refine am_forI (n) (fun v => [some (.ref 38), some (.int (nI x)), some (.int (nI t)), some (.int (nI v))]) (fun v => mem ch S) (fun v => ∀ u, u < v → ((bt fa fb q u x).isSome && decide (S 43 (12 * u + t) = S 43 (12 * x + t) - 1)) = false) (fun v hv hi k => ?_) (fun hi => ?_) n 0 (by omega) (fun u h => absurd h (Nat.not_lt_zero _))
  · refine am_iload_n rfl rfl ?_
    refine am_aload_n rfl rfl rfl ?_
    refine am_get rfl rfl rfl ?_
    refine am_icmp_ge rfl (fun h => absurd h (nm_lt N.1 N.2.1 hv)) (fun _ => ?_)
    refine am_aload_n rfl rfl rfl ?_
    refine am_iload_n rfl rfl ?_
    refine am_iload_n rfl rfl ?_
    refine am_Vx [.int (nI v), .int (nI x)] rfl rfl rfl rfl rfl rfl (m_areN (d := d) N v x (by omega) hx) ?_
    refine am_if_eq rfl (fun h10 => ?_) (fun h10 => ?_)
    · refine am_iinc rfl rfl ?_
      refine am_goto rfl ?_
      have k := k (fun u hu => by
        by_cases e : u = v
        · subst e
          first | (rw [bi_0 h10, Bool.false_and]; done) | (rw [decide_eq_false h21, Bool.and_false]; done)
        · exact hi u (by omega))
      simp only [nI_succ] at k
      exact k
    · refine am_aload_n rfl rfl rfl ?_
      refine am_iload_n rfl rfl ?_
      refine am_iload_n rfl rfl ?_
      refine am_Vx [.int (nI v), .int (nI t)] rfl rfl rfl rfl rfl rfl (m_far (d := _) v t (by omega) ht) ?_
      refine am_aload_n rfl rfl rfl ?_
      refine am_iload_n rfl rfl ?_
      refine am_iload_n rfl rfl ?_
      refine am_Vx [.int (nI x), .int (nI t)] rfl rfl rfl rfl rfl rfl (m_far (d := _) x t hx ht) ?_
      refine am_iconst rfl ?_
      refine am_isub rfl ?_
      refine am_icmp_ne rfl (fun h21 => ?_) (fun h21 => ?_)
      · refine am_iinc rfl rfl ?_
        refine am_goto rfl ?_
        have k := k (fun u hu => by
          by_cases e : u = v
          · subst e
            first | (rw [bi_0 h10, Bool.false_and]; done) | (rw [decide_eq_false h21, Bool.and_false]; done)
          · exact hi u (by omega))
        simp only [nI_succ] at k
        exact k
      · refine am_iload_n rfl rfl ?_
        refine am_ireturn rfl (fun h => absurd h (by decide)) ⟨?_, rfl⟩
        rw [fst?_some (v := v) (by rw [bi_1 h10, Bool.true_and]; exact decide_eq_true h21) hi hv]
        rfl
  · refine am_iload_n rfl rfl ?_
    refine am_aload_n rfl rfl rfl ?_
    refine am_get rfl rfl rfl ?_
    refine am_icmp_ge rfl (fun _ => ?_) (fun h => absurd (nm_ge N.1 N.2.1) h)
    refine am_iconst rfl ?_
    refine am_ireturn rfl (fun h => absurd h (by decide)) ⟨?_, rfl⟩
    rw [fst?_none hi]
    rfl
def mnt (S : am_S0) (x : Int32) (n : Nat) : am_S0 := mch (am_up (am_up S 38 (upd (upd (S 38) 0 x) 1 0)) 42 (pw n (fun v => nI v + 1) (S 42)))
/-- m_net -/
theorem m_net (h1 : 1 ≤ n) (hn : n ≤ 12) : AW g (d + 1) 0 0 104 0 (am_L0 104 [.ref 38, .int (nI n)]) [] (mem ch S) (am_is (some (.int 1)) (mem ch (mnt S (nI n) n))) := by
  refine am_iload_n rfl rfl ?_
  refine am_iconst rfl ?_
  refine am_icmp_lt rfl (fun h => absurd h (nI_nlt h1 (by omega))) (fun _ => ?_)
  refine am_iload_n rfl rfl ?_
  refine am_bipush rfl ?_
  refine am_icmp_le rfl (fun _ => ?_) (fun h => absurd (nI_le hn (by decide)) h)
  refine am_aload_n rfl rfl rfl ?_
  refine am_iload_n rfl rfl ?_
  refine am_put rfl rfl (Nat.le_of_ble_eq_true rfl) rfl ?_
  refine am_aload_n rfl rfl rfl ?_
  refine am_iconst rfl ?_
  refine am_put rfl rfl (Nat.le_of_ble_eq_true rfl) rfl ?_
  refine am_iconst rfl ?_
  refine am_istore_n rfl ?_
  refine am_Meq (M' := mem ch (am_up (am_up S 38 (upd (upd (S 38) 0 (nI n)) 1 0)) 42 (pw 0 (fun v => nI v + 1) (S 42)))) ?_ ?_
  · rw [pw_0]
    exact congrArg (mem ch) (am_up_self (am_up S 38 (upd (upd (S 38) 0 (nI n)) 1 0)) 42).symm
  show AW g (d + 1) 0 0 104 16 [some (.ref 38), some (.int (nI n)), some (.int (nI 0))] [] _ _
  refine am_for (n) (fun v => [some (.ref 38), some (.int (nI n)), some (.int (nI v))]) (fun v => mem ch (am_up (am_up S 38 (upd (upd (S 38) 0 (nI n)) 1 0)) 42 (pw v (fun v => nI v + 1) (S 42)))) (fun v hv k => ?_) ?_ n 0 (by omega)
  · refine am_iload_n rfl rfl ?_
    refine am_aload_n rfl rfl rfl ?_
    refine am_get rfl rfl rfl ?_
    refine am_icmp_ge rfl (fun h => absurd h (nI_ge hv (by omega))) (fun _ => ?_)
    refine am_aload_n rfl rfl rfl ?_
    refine am_get rfl rfl rfl ?_
    refine am_iload_n rfl rfl ?_
    refine am_iload_n rfl rfl ?_
    refine am_iconst rfl ?_
    refine am_iadd rfl ?_
    refine am_iast rfl rfl rfl (by omega) (by decide) ?_
    refine am_Meq (M' := mem ch (am_up (am_up S 38 (upd (upd (S 38) 0 (nI n)) 1 0)) 42 (pw (v + 1) (fun v => nI v + 1) (S 42)))) ?_ ?_
    · rw [← pw_s]
      show mem ch (am_up (am_up (am_up S 38 (upd (upd (S 38) 0 (nI n)) 1 0)) 42 (pw v (fun v => nI v + 1) (S 42))) 42 (upd (pw v (fun v => nI v + 1) (S 42)) v (nI v + 1))) = _
      rw [am_up_up]
    refine am_iinc rfl rfl ?_
    refine am_goto rfl ?_
    simp only [nI_succ] at k
    exact k
  · refine am_iload_n rfl rfl ?_
    refine am_aload_n rfl rfl rfl ?_
    refine am_get rfl rfl rfl ?_
    refine am_icmp_ge rfl (fun _ => ?_) (fun h => absurd (nI_le (Nat.le_refl n) (by omega)) h)
    refine am_aload_n rfl rfl rfl ?_
    refine am_Vx [] rfl rfl rfl rfl rfl rfl (m_change (d := d)) ?_
    refine am_iconst rfl ?_
    refine am_ireturn rfl (fun _ => by decide) ⟨?_, rfl⟩
    rfl
/-- m_netNo -/
theorem m_netNo (x : Int32) (h : x < 1 ∨ ¬ x ≤ 12) : AW g d 0 0 104 0 (am_L0 104 [.ref 38, .int x]) [] (mem ch S) (am_is (some (.int 0)) (mem ch S)) := by
  refine am_iload_n rfl rfl ?_
  refine am_iconst rfl ?_
  refine am_icmp_lt rfl (fun h2 => ?_) (fun h2 => ?_)
  · refine am_iconst rfl ?_
    refine am_ireturn rfl (fun _ => by decide) ⟨?_, rfl⟩
    rfl
  · refine am_iload_n rfl rfl ?_
    refine am_bipush rfl ?_
    refine am_icmp_le rfl (fun h5 => ?_) (fun h5 => ?_)
    · exact h.elim (fun q => absurd q h2) (fun q => absurd h5 q)
    · refine am_iconst rfl ?_
      refine am_ireturn rfl (fun _ => by decide) ⟨?_, rfl⟩
      rfl
theorem isN_of {x : Int32} (hN : S 38 0 = nI n) (hn : n ≤ 12) (h : (decide (0 ≤ x) && decide (x < S 38 0)) = true) : ∃ v, v < n ∧ x = nI v := by
  rw [Bool.and_eq_true, decide_eq_true_eq, decide_eq_true_eq] at h
  obtain ⟨v, hv, rfl⟩ := nI_of (Int32.not_lt.mpr h.1)
  rw [hN, nI_ltI hv (by omega)] at h
  exact ⟨v, h.2, rfl⟩
theorem isN_to {v : Nat} (hN : S 38 0 = nI n) (hn : n ≤ 12) (hv : v < n) : (decide (0 ≤ nI v) && decide (nI v < S 38 0)) = true := by
  rw [Bool.and_eq_true, decide_eq_true_eq, decide_eq_true_eq, hN]
  exact ⟨nI_pos' (by omega), nI_lt hv (by omega)⟩
def mtk (S : am_S0) (fa fb : Nat → Nat) (q : Nat) (x y w : Int32) : Bool := !decide (S 38 1 = 24) && (decide (0 ≤ x) && decide (x < S 38 0)) && (decide (0 ≤ y) && decide (y < S 38 0)) && !decide (x = y) && !(bt fa fb q x.toNatClampNeg y.toNatClampNeg).isSome && decide (1 ≤ w) && decide (w ≤ 999)
/-- m_edgeNo -/
theorem m_edgeNo (N : MN S n q fa fb) (x y w : Int32) (ht : mtk S fa fb q x y w = false) : AW g (d + 2) 0 0 106 0 (am_L0 106 [.ref 38, .int x, .int y, .int w]) [] (mem ch S) (am_is (some (.int (-1))) (mem ch S)) := by
  have hn := N.2.1
  refine am_aload_n rfl rfl rfl ?_
  refine am_get rfl rfl rfl ?_
  refine am_bipush rfl ?_
  refine am_icmp_eq rfl (fun h3 => ?_) (fun h3 => ?_)
  · refine am_iconst rfl ?_
    refine am_ireturn rfl (fun h => absurd h (by decide)) ⟨?_, rfl⟩
    rfl
  · refine am_aload_n rfl rfl rfl ?_
    refine am_iload_n rfl rfl ?_
    refine am_Vx [.int x] rfl rfl rfl rfl rfl rfl (m_isNode (d := _) x) ?_
    refine am_if_eq rfl (fun h7 => ?_) (fun h7 => ?_)
    · refine am_iconst rfl ?_
      refine am_ireturn rfl (fun h => absurd h (by decide)) ⟨?_, rfl⟩
      rfl
    · refine am_aload_n rfl rfl rfl ?_
      refine am_iload_n rfl rfl ?_
      refine am_Vx [.int y] rfl rfl rfl rfl rfl rfl (m_isNode (d := _) y) ?_
      refine am_if_eq rfl (fun h11 => ?_) (fun h11 => ?_)
      · refine am_iconst rfl ?_
        refine am_ireturn rfl (fun h => absurd h (by decide)) ⟨?_, rfl⟩
        rfl
      · refine am_iload_n rfl rfl ?_
        refine am_iload_n rfl rfl ?_
        refine am_icmp_eq rfl (fun h14 => ?_) (fun h14 => ?_)
        · refine am_iconst rfl ?_
          refine am_ireturn rfl (fun h => absurd h (by decide)) ⟨?_, rfl⟩
          rfl
        · refine am_aload_n rfl rfl rfl ?_
          refine am_iload_n rfl rfl ?_
          refine am_iload_n rfl rfl ?_
          obtain ⟨a, ha, rfl⟩ := isN_of N.1 hn (bi_1 h7)
          obtain ⟨b, hb, rfl⟩ := isN_of N.1 hn (bi_1 h11)
          refine am_Vx [.int (nI a), .int (nI b)] rfl rfl rfl rfl rfl rfl (m_areN (d := d) N a b (by omega) (by omega)) ?_
          refine am_if_ne rfl (fun h19 => ?_) (fun h19 => ?_)
          · refine am_iconst rfl ?_
            refine am_ireturn rfl (fun h => absurd h (by decide)) ⟨?_, rfl⟩
            rfl
          · refine am_iload_n rfl rfl ?_
            refine am_iconst rfl ?_
            refine am_icmp_lt rfl (fun h22 => ?_) (fun h22 => ?_)
            · refine am_iconst rfl ?_
              refine am_ireturn rfl (fun h => absurd h (by decide)) ⟨?_, rfl⟩
              rfl
            · refine am_iload_n rfl rfl ?_
              refine am_sipush rfl ?_
              refine am_icmp_le rfl (fun h25 => ?_) (fun h25 => ?_)
              · exfalso
                unfold mtk at ht
                rw [decide_eq_false h3, bi_1 h7, bi_1 h11, decide_eq_false h14, nI_clamp (by omega), nI_clamp (by omega), bi_0 h19, decide_eq_true (Int32.not_lt.mp h22), decide_eq_true h25] at ht
                exact absurd ht (by decide)
              · refine am_iconst rfl ?_
                refine am_ireturn rfl (fun h => absurd h (by decide)) ⟨?_, rfl⟩
                rfl
def mad (S : am_S0) (a b q : Nat) (w : Int32) : am_S0 := mch (am_up (am_up (am_up (am_up S 39 (upd (S 39) q (nI a))) 40 (upd (S 40) q (nI b))) 41 (upd (S 41) q w)) 38 (upd (S 38) 1 (nI q + 1)))
/-- m_edgeYes -/
theorem m_edgeYes (N : MN S n q fa fb) (a b : Nat) (w : Int32) (ha : a < n) (hb : b < n) (hq : q < 24) (ht : mtk S fa fb q (nI a) (nI b) w = true) : AW g (d + 2) 0 0 106 0 (am_L0 106 [.ref 38, .int (nI a), .int (nI b), .int w]) [] (mem ch S) (am_is (some (.int (nI q))) (mem ch (mad S a b q w))) := by
  have hn := N.2.1
  unfold mtk at ht
  simp only [Bool.and_eq_true, Bool.not_eq_true', decide_eq_false_iff_not, decide_eq_true_eq] at ht
  obtain ⟨⟨⟨⟨⟨⟨t0, t1⟩, t2⟩, t3⟩, t4⟩, t5⟩, t6⟩ := ht
  rw [nI_clamp (by omega), nI_clamp (by omega)] at t4
  refine am_aload_n rfl rfl rfl ?_
  refine am_get rfl rfl rfl ?_
  refine am_bipush rfl ?_
  refine am_icmp_eq rfl (fun h => absurd h t0) (fun _ => ?_)
  refine am_aload_n rfl rfl rfl ?_
  refine am_iload_n rfl rfl ?_
  refine am_Vx [.int (nI a)] rfl rfl rfl rfl rfl rfl (m_isNode (d := _) (nI a)) ?_
  rw [isN_to N.1 hn ha]
  refine am_if_eq rfl (fun h => absurd h (by decide)) (fun _ => ?_)
  refine am_aload_n rfl rfl rfl ?_
  refine am_iload_n rfl rfl ?_
  refine am_Vx [.int (nI b)] rfl rfl rfl rfl rfl rfl (m_isNode (d := _) (nI b)) ?_
  rw [isN_to N.1 hn hb]
  refine am_if_eq rfl (fun h => absurd h (by decide)) (fun _ => ?_)
  refine am_iload_n rfl rfl ?_
  refine am_iload_n rfl rfl ?_
  refine am_icmp_eq rfl (fun h => absurd h t3) (fun _ => ?_)
  refine am_aload_n rfl rfl rfl ?_
  refine am_iload_n rfl rfl ?_
  refine am_iload_n rfl rfl ?_
  refine am_Vx [.int (nI a), .int (nI b)] rfl rfl rfl rfl rfl rfl (m_areN (d := d) N a b (by omega) (by omega)) ?_
  rw [t4]
  refine am_if_ne rfl (fun h => absurd rfl h) (fun _ => ?_)
  refine am_iload_n rfl rfl ?_
  refine am_iconst rfl ?_
  refine am_icmp_lt rfl (fun h => absurd t5 (Int32.not_le.mpr h)) (fun _ => ?_)
  refine am_iload_n rfl rfl ?_
  refine am_sipush rfl ?_
  refine am_icmp_le rfl (fun _ => ?_) (fun h => absurd t6 h)
  refine am_aload_n rfl rfl rfl ?_
  refine am_get rfl rfl rfl ?_
  refine am_aload_n rfl rfl rfl ?_
  refine am_get rfl rfl rfl ?_
  refine am_iload_n rfl rfl ?_
  refine am_iast rfl rfl N.2.2.1 hq (by decide) ?_
  refine am_aload_n rfl rfl rfl ?_
  refine am_get rfl rfl rfl ?_
  refine am_aload_n rfl rfl rfl ?_
  refine am_get rfl rfl rfl ?_
  refine am_iload_n rfl rfl ?_
  refine am_iast rfl rfl N.2.2.1 hq (by decide) ?_
  refine am_aload_n rfl rfl rfl ?_
  refine am_get rfl rfl rfl ?_
  refine am_aload_n rfl rfl rfl ?_
  refine am_get rfl rfl rfl ?_
  refine am_iload_n rfl rfl ?_
  refine am_iast rfl rfl N.2.2.1 hq (by decide) ?_
  refine am_aload_n rfl rfl rfl ?_
  refine am_dup rfl rfl ?_
  refine am_get rfl rfl rfl ?_
  refine am_iconst rfl ?_
  refine am_iadd rfl ?_
  refine am_put rfl rfl (Nat.le_of_ble_eq_true rfl) rfl ?_
  refine am_Meq (M' := mem ch (am_up (am_up (am_up (am_up S 39 (upd (S 39) q (nI a))) 40 (upd (S 40) q (nI b))) 41 (upd (S 41) q w)) 38 (upd (S 38) 1 (nI q + 1)))) (by rw [← N.2.2.1]; rfl) ?_
  refine am_aload_n rfl rfl rfl ?_
  refine am_Vx [] rfl rfl rfl rfl rfl rfl (m_change (d := d + 1)) ?_
  refine am_aload_n rfl rfl rfl ?_
  refine am_get rfl rfl rfl ?_
  refine am_iconst rfl ?_
  refine am_isub rfl ?_
  refine am_ireturn rfl (fun h => absurd h (by decide)) ⟨?_, rfl⟩
  show some (Value.int ((nI q + 1) - 1)) = _
  rw [nI_1, nI_pred]
def mid (S : am_S0) (x y : Int32) : Bool := (decide (0 ≤ x) && decide (x < S 38 0)) && decide (1 ≤ y) && decide (y ≤ 999)
/-- m_identity -/
theorem m_identity (hN : S 38 0 = nI n) (hn : n ≤ 12) (x y : Int32) : AW g (d + 1) 0 0 110 0 (am_L0 110 [.ref 38, .int x, .int y]) [] (mem ch S) (am_is (some (.int (bi (mid S x y)))) (bif mid S x y then mem ch (mch (am_up S 42 (upd (S 42) x.toNatClampNeg y))) else mem ch S)) := by
  unfold mid
  refine am_aload_n rfl rfl rfl ?_
  refine am_iload_n rfl rfl ?_
  refine am_Vx [.int x] rfl rfl rfl rfl rfl rfl (m_isNode (d := _) x) ?_
  refine am_if_eq rfl (fun h3 => ?_) (fun h3 => ?_)
  · refine am_iconst rfl ?_
    refine am_ireturn rfl (fun _ => by decide) ?_
    first
      | (rw [bi_0 h3]; simp only [Bool.false_and, cond_false]; exact ⟨rfl, rfl⟩)
      | (rw [decide_eq_false (Int32.not_le.mpr h6)]; simp only [Bool.and_false, Bool.false_and, cond_false]; exact ⟨rfl, rfl⟩)
      | (rw [decide_eq_false h9]; simp only [Bool.and_false, cond_false]; exact ⟨rfl, rfl⟩)
  · refine am_iload_n rfl rfl ?_
    refine am_iconst rfl ?_
    refine am_icmp_lt rfl (fun h6 => ?_) (fun h6 => ?_)
    · refine am_iconst rfl ?_
      refine am_ireturn rfl (fun _ => by decide) ?_
      first
        | (rw [bi_0 h3]; simp only [Bool.false_and, cond_false]; exact ⟨rfl, rfl⟩)
        | (rw [decide_eq_false (Int32.not_le.mpr h6)]; simp only [Bool.and_false, Bool.false_and, cond_false]; exact ⟨rfl, rfl⟩)
        | (rw [decide_eq_false h9]; simp only [Bool.and_false, cond_false]; exact ⟨rfl, rfl⟩)
    · refine am_iload_n rfl rfl ?_
      refine am_sipush rfl ?_
      refine am_icmp_le rfl (fun h9 => ?_) (fun h9 => ?_)
      · refine am_aload_n rfl rfl rfl ?_
        refine am_get rfl rfl rfl ?_
        refine am_iload_n rfl rfl ?_
        refine am_iload_n rfl rfl ?_
        rw [bi_1 h3, decide_eq_true (Int32.not_lt.mp h6), decide_eq_true h9]
        obtain ⟨v, hv, rfl⟩ := isN_of hN hn (bi_1 h3)
        refine am_iast rfl rfl rfl (by omega) (by decide) ?_
        rw [nI_clamp (by omega)]
        refine am_Meq (M' := mem ch (am_up S 42 (upd (S 42) v y))) rfl ?_
        refine am_aload_n rfl rfl rfl ?_
        refine am_Vx [] rfl rfl rfl rfl rfl rfl (m_change (d := d)) ?_
        refine am_iconst rfl ?_
        exact am_ireturn rfl (fun _ => by decide) ⟨rfl, rfl⟩
      · refine am_iconst rfl ?_
        refine am_ireturn rfl (fun _ => by decide) ?_
        first
          | (rw [bi_0 h3]; simp only [Bool.false_and, cond_false]; exact ⟨rfl, rfl⟩)
          | (rw [decide_eq_false (Int32.not_le.mpr h6)]; simp only [Bool.and_false, Bool.false_and, cond_false]; exact ⟨rfl, rfl⟩)
          | (rw [decide_eq_false h9]; simp only [Bool.and_false, cond_false]; exact ⟨rfl, rfl⟩)
end MNET
