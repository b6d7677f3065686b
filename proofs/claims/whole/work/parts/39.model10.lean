/-! the model: what is held, letters, the end of a run -/
/-- the model's run: algorithm k, root rt, r rounds done -/
def MR (S : am_S0) (n q : Nat) (fa fb : Nat → Nat) (k rt r : Nat) (pr : Nat → Option Nat) (rk : Nat → Nat) : Prop := S 38 8 = nI k ∧ k < 8 ∧ S 38 10 = nI r ∧ r < 1000000 ∧ (k = 1 ∨ k = 2 ∨ k = 3 ∨ k = 7 → rt < n ∧ S 38 9 = nI rt) ∧ (k = 2 ∨ k = 3 → Rk pr n rk ∧ ∀ v, v < n → S 44 v = em (pr v)) ∧ (k = 3 → (∀ v, v < n → (pr v = none ↔ v = rt)) ∧ ∀ j, j < r → Dif pr n (ck pr n j (S 42))) ∧ (k = 1 → r ≤ 12) ∧ ∀ e, e < q → fa e < n ∧ fb e < n
theorem MR.scr {S S1 : am_S0} {n q : Nat} {fa fb : Nat → Nat} {k rt r : Nat} {pr : Nat → Option Nat} {rk : Nat → Nat} (h : MR S n q fa fb k rt r pr rk) (A : Scr S S1) : MR S1 n q fa fb k rt r pr rk := by
  unfold MR
  rw [A 38 (by decide) (by decide) (by decide), A 44 (by decide) (by decide) (by decide), A 42 (by decide) (by decide) (by decide)]
  exact h
def hAf (S : am_S0) (n q : Nat) (fa fb : Nat → Nat) (rt : Nat) (pr : Nat → Option Nat) (k x s r : Nat) : Int32 := match k with
  | 0 => (match s with | 0 => S 42 (lst (S 42) (S 43) n x (nI r)) | 1 => S 43 (12 * x + lst (S 42) (S 43) n x (nI r)) | _ => em (mnr fa fb q n (S 43) x (lst (S 42) (S 43) n x (nI r))))
  | 1 => hwy (bt fa fb q) (wv fa fb (S 41) rt q) (S 41) n x s r
  | 2 => hsm pr (S 42) (S 45) n x s (nI r)
  | 3 => (match s with | 0 => ck pr n r (S 42) x | _ => -1)
  | 4 => (match s with | 2 => -1 | 0 => bif mov (S 47) x (nI r) then S 46 x else 0 | _ => bif mov (S 47) x (nI r) then S 47 x else 0)
  | 5 => (match s with | 2 => -1 | 0 => bif mov (S 47) x (nI r) then S 46 x else -1 | _ => bif mov (S 47) x (nI r) then S 47 x else 0)
  | 6 => (match s with | 0 => bif mov (S 47) x (nI r) then 0 else 1 | 1 => bif mov (S 47) x (nI r) then S 47 x else 0 | _ => nI (ins (bt fa fb q) (S 47) n x (bif mov (S 47) x (nI r) then S 47 x else nI r)))
  | _ => hsd (bt fa fb q) (S 43) n rt x s (nI r)
section MM10
variable {g : am_G} {d : Nat} {ch : Option Nat} {S : am_S0} {n q : Nat} {fa fb : Nat → Nat}
variable {pr : Nat → Option Nat} {rk : Nat → Nat} {rt k r : Nat}
/-- heldAfter(v, slot, r) -/
theorem m_heldAfter (N : MN S n q fa fb) (M : MR S n q fa fb k rt r pr rk) (x s : Nat) (hx : x < n) (hs : s < 3) : AW g (d + 3) 0 0 140 0 (am_L0 140 [.ref 38, .int (nI x), .int (nI s), .int (nI r)]) [] (mem ch S) (am_sc (hAf S n q fa fb rt pr k x s r) ch S) := by
  have hn := N.2.1
  match k, M with
  | 0, M =>
    obtain ⟨h8, _, h10, hr6, hR, hT, hC, hW, hab⟩ := M
    refine am_aload_n rfl rfl rfl ?_
    refine am_get rfl rfl rfl ?_
    rw [h8]
    refine am_swIn (j := 0) rfl (by decide) (by decide) rfl ?_
    refine am_aload_n rfl rfl rfl ?_
    refine am_iload_n rfl rfl ?_
    refine am_iload_n rfl rfl ?_
    refine am_Vx [.int (nI x), .int (nI r)] rfl rfl rfl rfl rfl rfl (m_least (d := _) N x (nI r) (by omega)) ?_
    have hl : lst (S 42) (S 43) n x (nI r) < 12 := lst_lt (by omega) hn
    refine am_istore rfl ?_
    match s, hs with
    | 0, _ =>
      refine am_iload_n rfl rfl ?_
      refine am_if_ne rfl (fun h => absurd (by decide) h) (fun _ => ?_)
      refine am_aload_n rfl rfl rfl ?_
      refine am_get rfl rfl rfl ?_
      refine am_iload rfl rfl ?_
      refine am_iald rfl rfl rfl (by omega) (by decide) ?_
      refine am_goto rfl ?_
      refine am_ireturn rfl (fun h => absurd h (by decide)) ⟨?_, S, Scr.rf, rfl⟩
      rfl
    | 1, _ =>
      refine am_iload_n rfl rfl ?_
      refine am_if_ne rfl (fun _ => ?_) (fun h => absurd h (by decide))
      refine am_iload_n rfl rfl ?_
      refine am_iconst rfl ?_
      refine am_icmp_ne rfl (fun h => absurd (by decide) h) (fun _ => ?_)
      refine am_aload_n rfl rfl rfl ?_
      refine am_iload_n rfl rfl ?_
      refine am_iload rfl rfl ?_
      refine am_Vx [.int (nI x), .int (nI (lst (S 42) (S 43) n x (nI r)))] rfl rfl rfl rfl rfl rfl (m_far (d := _) (x) ((lst (S 42) (S 43) n x (nI r))) (by omega) (by omega)) ?_
      refine am_goto rfl ?_
      refine am_ireturn rfl (fun h => absurd h (by decide)) ⟨?_, S, Scr.rf, rfl⟩
      rfl
    | 2, _ =>
      refine am_iload_n rfl rfl ?_
      refine am_if_ne rfl (fun _ => ?_) (fun h => absurd h (by decide))
      refine am_iload_n rfl rfl ?_
      refine am_iconst rfl ?_
      refine am_icmp_ne rfl (fun _ => ?_) (fun h => absurd h (by decide))
      refine am_aload_n rfl rfl rfl ?_
      refine am_iload_n rfl rfl ?_
      refine am_iload rfl rfl ?_
      refine am_Vx [.int (nI x), .int (nI (lst (S 42) (S 43) n x (nI r)))] rfl rfl rfl rfl rfl rfl (m_nearer (d := _) N (x) ((lst (S 42) (S 43) n x (nI r))) (by omega) (by omega)) ?_
      refine am_ireturn rfl (fun h => absurd h (by decide)) ⟨?_, S, Scr.rf, rfl⟩
      rfl
    | s + 3, hs => exact absurd hs (by omega)
  | 1, M =>
    obtain ⟨h8, _, h10, hr6, hR, hT, hC, hW, hab⟩ := M
    refine am_aload_n rfl rfl rfl ?_
    refine am_get rfl rfl rfl ?_
    rw [h8]
    refine am_swIn (j := 1) rfl (by decide) (by decide) rfl ?_
    refine am_aload_n rfl rfl rfl ?_
    refine am_iload_n rfl rfl ?_
    refine am_iload_n rfl rfl ?_
    refine am_iload_n rfl rfl ?_
    have hrt := hR (by decide)
    refine am_V [.int (nI x), .int (nI s), .int (nI r)] rfl rfl rfl rfl rfl rfl (m_heldWays (d := _) N rt hrt.1 hrt.2 hab x s r hx hs (hW rfl)) ?_
    rintro _ _ ⟨rfl, S1, hS1, rfl⟩ _
    exact am_ireturn rfl (fun h => absurd h (by decide)) ⟨rfl, S1, hS1, rfl⟩
  | 2, M =>
    obtain ⟨h8, _, h10, hr6, hR, hT, hC, hW, hab⟩ := M
    refine am_aload_n rfl rfl rfl ?_
    refine am_get rfl rfl rfl ?_
    rw [h8]
    refine am_swIn (j := 2) rfl (by decide) (by decide) rfl ?_
    refine am_aload_n rfl rfl rfl ?_
    refine am_iload_n rfl rfl ?_
    refine am_iload_n rfl rfl ?_
    refine am_iload_n rfl rfl ?_
    have hT2 := hT (by decide)
    refine am_Vx [.int (nI x), .int (nI s), .int (nI r)] rfl rfl rfl rfl rfl rfl (m_heldSums (d := _) N hT2.1 hT2.2 x s (nI r) (by omega) hs) ?_
    exact am_ireturn rfl (fun h => absurd h (by decide)) ⟨rfl, S, Scr.rf, rfl⟩
  | 3, M =>
    obtain ⟨h8, _, h10, hr6, hR, hT, hC, hW, hab⟩ := M
    refine am_aload_n rfl rfl rfl ?_
    refine am_get rfl rfl rfl ?_
    rw [h8]
    refine am_swIn (j := 3) rfl (by decide) (by decide) rfl ?_
    have hrt := hR (by decide)
    have hT2 := hT (by decide)
    have hC3 := hC rfl
    match s, hs with
    | 0, _ =>
      refine am_iload_n rfl rfl ?_
      refine am_if_ne rfl (fun h => absurd (by decide) h) (fun _ => ?_)
      refine am_aload_n rfl rfl rfl ?_
      refine am_iload_n rfl rfl ?_
      refine am_iload_n rfl rfl ?_
      refine am_V [.int (nI x), .int (nI r)] rfl rfl rfl rfl rfl rfl (m_heldColour (d := _) N hrt.2 hrt.1 hT2.1 hT2.2 hC3.1 r hr6 hC3.2 x hx) ?_
      rintro _ _ ⟨rfl, S1, hS1, rfl⟩ _
      refine am_goto rfl ?_
      exact am_ireturn rfl (fun h => absurd h (by decide)) ⟨rfl, S1, hS1, rfl⟩
    | 1, _ =>
      refine am_iload_n rfl rfl ?_
      refine am_if_ne rfl (fun _ => ?_) (fun h => absurd h (by decide))
      refine am_iconst rfl ?_
      refine am_ireturn rfl (fun h => absurd h (by decide)) ⟨?_, S, Scr.rf, rfl⟩
      rfl
    | 2, _ =>
      refine am_iload_n rfl rfl ?_
      refine am_if_ne rfl (fun _ => ?_) (fun h => absurd h (by decide))
      refine am_iconst rfl ?_
      refine am_ireturn rfl (fun h => absurd h (by decide)) ⟨?_, S, Scr.rf, rfl⟩
      rfl
    | s + 3, hs => exact absurd hs (by omega)
  | 4, M =>
    obtain ⟨h8, _, h10, hr6, hR, hT, hC, hW, hab⟩ := M
    refine am_aload_n rfl rfl rfl ?_
    refine am_get rfl rfl rfl ?_
    rw [h8]
    refine am_swIn (j := 4) rfl (by decide) (by decide) rfl ?_
    match s, hs with
    | 0, _ =>
      refine am_iload_n rfl rfl ?_
      refine am_iconst rfl ?_
      refine am_icmp_ne rfl (fun _ => ?_) (fun h => absurd h (by decide))
      refine am_aload_n rfl rfl rfl ?_
      refine am_iload_n rfl rfl ?_
      refine am_iload_n rfl rfl ?_
      refine am_Vx [.int (nI x), .int (nI r)] rfl rfl rfl rfl rfl rfl (m_isOver (d := _) (x) (by omega) (nI r)) ?_
      refine am_if_ne rfl (fun h58 => ?_) (fun h58 => ?_)
      · refine am_iload_n rfl rfl ?_
        refine am_if_ne rfl (fun h => absurd (by decide) h) (fun _ => ?_)
        refine am_aload_n rfl rfl rfl ?_
        refine am_get rfl rfl rfl ?_
        refine am_iload_n rfl rfl ?_
        refine am_iald rfl rfl rfl (by omega) (by decide) ?_
        refine am_goto rfl ?_
        refine am_ireturn rfl (fun h => absurd h (by decide)) ⟨?_, S, Scr.rf, rfl⟩
        first | rfl | simp only [hAf, bi_1 h58, cond_true, cond_false]
      · refine am_iconst rfl ?_
        refine am_goto rfl ?_
        refine am_ireturn rfl (fun h => absurd h (by decide)) ⟨?_, S, Scr.rf, rfl⟩
        first | rfl | simp only [hAf, bi_0 h58, cond_true, cond_false]
    | 1, _ =>
      refine am_iload_n rfl rfl ?_
      refine am_iconst rfl ?_
      refine am_icmp_ne rfl (fun _ => ?_) (fun h => absurd h (by decide))
      refine am_aload_n rfl rfl rfl ?_
      refine am_iload_n rfl rfl ?_
      refine am_iload_n rfl rfl ?_
      refine am_Vx [.int (nI x), .int (nI r)] rfl rfl rfl rfl rfl rfl (m_isOver (d := _) (x) (by omega) (nI r)) ?_
      refine am_if_ne rfl (fun h58 => ?_) (fun h58 => ?_)
      · refine am_iload_n rfl rfl ?_
        refine am_if_ne rfl (fun _ => ?_) (fun h => absurd h (by decide))
        refine am_aload_n rfl rfl rfl ?_
        refine am_get rfl rfl rfl ?_
        refine am_iload_n rfl rfl ?_
        refine am_iald rfl rfl rfl (by omega) (by decide) ?_
        refine am_ireturn rfl (fun h => absurd h (by decide)) ⟨?_, S, Scr.rf, rfl⟩
        first | rfl | simp only [hAf, bi_1 h58, cond_true, cond_false]
      · refine am_iconst rfl ?_
        refine am_goto rfl ?_
        refine am_ireturn rfl (fun h => absurd h (by decide)) ⟨?_, S, Scr.rf, rfl⟩
        first | rfl | simp only [hAf, bi_0 h58, cond_true, cond_false]
    | 2, _ =>
      refine am_iload_n rfl rfl ?_
      refine am_iconst rfl ?_
      refine am_icmp_ne rfl (fun h => absurd (by decide) h) (fun _ => ?_)
      refine am_iconst rfl ?_
      refine am_goto rfl ?_
      refine am_ireturn rfl (fun h => absurd h (by decide)) ⟨?_, S, Scr.rf, rfl⟩
      first | rfl | simp only [hAf, cond_true, cond_false]
    | s + 3, hs => exact absurd hs (by omega)
  | 5, M =>
    obtain ⟨h8, _, h10, hr6, hR, hT, hC, hW, hab⟩ := M
    refine am_aload_n rfl rfl rfl ?_
    refine am_get rfl rfl rfl ?_
    rw [h8]
    refine am_swIn (j := 5) rfl (by decide) (by decide) rfl ?_
    match s, hs with
    | 0, _ =>
      refine am_iload_n rfl rfl ?_
      refine am_iconst rfl ?_
      refine am_icmp_ne rfl (fun _ => ?_) (fun h => absurd h (by decide))
      refine am_iload_n rfl rfl ?_
      refine am_iconst rfl ?_
      refine am_icmp_ne rfl (fun _ => ?_) (fun h => absurd h (by decide))
      refine am_aload_n rfl rfl rfl ?_
      refine am_iload_n rfl rfl ?_
      refine am_iload_n rfl rfl ?_
      refine am_Vx [.int (nI x), .int (nI r)] rfl rfl rfl rfl rfl rfl (m_isOver (d := _) (x) (by omega) (nI r)) ?_
      refine am_if_eq rfl (fun h97 => ?_) (fun h97 => ?_)
      · refine am_iconst rfl ?_
        refine am_ireturn rfl (fun h => absurd h (by decide)) ⟨?_, S, Scr.rf, rfl⟩
        first | rfl | simp only [hAf, bi_0 h97, cond_true, cond_false]
      · refine am_aload_n rfl rfl rfl ?_
        refine am_get rfl rfl rfl ?_
        refine am_iload_n rfl rfl ?_
        refine am_iald rfl rfl rfl (by omega) (by decide) ?_
        refine am_goto rfl ?_
        refine am_ireturn rfl (fun h => absurd h (by decide)) ⟨?_, S, Scr.rf, rfl⟩
        first | rfl | simp only [hAf, bi_1 h97, cond_true, cond_false]
    | 1, _ =>
      refine am_iload_n rfl rfl ?_
      refine am_iconst rfl ?_
      refine am_icmp_ne rfl (fun _ => ?_) (fun h => absurd h (by decide))
      refine am_iload_n rfl rfl ?_
      refine am_iconst rfl ?_
      refine am_icmp_ne rfl (fun h => absurd (by decide) h) (fun _ => ?_)
      refine am_aload_n rfl rfl rfl ?_
      refine am_iload_n rfl rfl ?_
      refine am_iload_n rfl rfl ?_
      refine am_Vx [.int (nI x), .int (nI r)] rfl rfl rfl rfl rfl rfl (m_isOver (d := _) (x) (by omega) (nI r)) ?_
      refine am_if_eq rfl (fun h85 => ?_) (fun h85 => ?_)
      · refine am_iconst rfl ?_
        refine am_goto rfl ?_
        refine am_ireturn rfl (fun h => absurd h (by decide)) ⟨?_, S, Scr.rf, rfl⟩
        first | rfl | simp only [hAf, bi_0 h85, cond_true, cond_false]
      · refine am_aload_n rfl rfl rfl ?_
        refine am_get rfl rfl rfl ?_
        refine am_iload_n rfl rfl ?_
        refine am_iald rfl rfl rfl (by omega) (by decide) ?_
        refine am_goto rfl ?_
        refine am_ireturn rfl (fun h => absurd h (by decide)) ⟨?_, S, Scr.rf, rfl⟩
        first | rfl | simp only [hAf, bi_1 h85, cond_true, cond_false]
    | 2, _ =>
      refine am_iload_n rfl rfl ?_
      refine am_iconst rfl ?_
      refine am_icmp_ne rfl (fun h => absurd (by decide) h) (fun _ => ?_)
      refine am_iconst rfl ?_
      refine am_goto rfl ?_
      refine am_ireturn rfl (fun h => absurd h (by decide)) ⟨?_, S, Scr.rf, rfl⟩
      first | rfl | simp only [hAf, cond_true, cond_false]
    | s + 3, hs => exact absurd hs (by omega)
  | 6, M =>
    obtain ⟨h8, _, h10, hr6, hR, hT, hC, hW, hab⟩ := M
    refine am_aload_n rfl rfl rfl ?_
    refine am_get rfl rfl rfl ?_
    rw [h8]
    refine am_swIn (j := 6) rfl (by decide) (by decide) rfl ?_
    match s, hs with
    | 0, _ =>
      refine am_iload_n rfl rfl ?_
      refine am_if_ne rfl (fun h => absurd (by decide) h) (fun _ => ?_)
      refine am_aload_n rfl rfl rfl ?_
      refine am_iload_n rfl rfl ?_
      refine am_iload_n rfl rfl ?_
      refine am_Vx [.int (nI x), .int (nI r)] rfl rfl rfl rfl rfl rfl (m_isOver (d := _) (x) (by omega) (nI r)) ?_
      refine am_if_eq rfl (fun h111 => ?_) (fun h111 => ?_)
      · refine am_iconst rfl ?_
        refine am_goto rfl ?_
        refine am_ireturn rfl (fun h => absurd h (by decide)) ⟨?_, S, Scr.rf, rfl⟩
        first | rfl | simp only [hAf, bi_0 h111, cond_true, cond_false]
      · refine am_iconst rfl ?_
        refine am_goto rfl ?_
        refine am_ireturn rfl (fun h => absurd h (by decide)) ⟨?_, S, Scr.rf, rfl⟩
        first | rfl | simp only [hAf, bi_1 h111, cond_true, cond_false]
    | 1, _ =>
      refine am_iload_n rfl rfl ?_
      refine am_if_ne rfl (fun _ => ?_) (fun h => absurd h (by decide))
      refine am_iload_n rfl rfl ?_
      refine am_iconst rfl ?_
      refine am_icmp_ne rfl (fun h => absurd (by decide) h) (fun _ => ?_)
      refine am_aload_n rfl rfl rfl ?_
      refine am_iload_n rfl rfl ?_
      refine am_iload_n rfl rfl ?_
      refine am_Vx [.int (nI x), .int (nI r)] rfl rfl rfl rfl rfl rfl (m_isOver (d := _) (x) (by omega) (nI r)) ?_
      refine am_if_eq rfl (fun h123 => ?_) (fun h123 => ?_)
      · refine am_iconst rfl ?_
        refine am_goto rfl ?_
        refine am_ireturn rfl (fun h => absurd h (by decide)) ⟨?_, S, Scr.rf, rfl⟩
        first | rfl | simp only [hAf, bi_0 h123, cond_true, cond_false]
      · refine am_aload_n rfl rfl rfl ?_
        refine am_get rfl rfl rfl ?_
        refine am_iload_n rfl rfl ?_
        refine am_iald rfl rfl rfl (by omega) (by decide) ?_
        refine am_goto rfl ?_
        refine am_ireturn rfl (fun h => absurd h (by decide)) ⟨?_, S, Scr.rf, rfl⟩
        first | rfl | simp only [hAf, bi_1 h123, cond_true, cond_false]
    | 2, _ =>
      refine am_iload_n rfl rfl ?_
      refine am_if_ne rfl (fun _ => ?_) (fun h => absurd h (by decide))
      refine am_iload_n rfl rfl ?_
      refine am_iconst rfl ?_
      refine am_icmp_ne rfl (fun _ => ?_) (fun h => absurd h (by decide))
      refine am_aload_n rfl rfl rfl ?_
      refine am_iload_n rfl rfl ?_
      refine am_aload_n rfl rfl rfl ?_
      refine am_iload_n rfl rfl ?_
      refine am_iload_n rfl rfl ?_
      refine am_Vx [.int (nI x), .int (nI r)] rfl rfl rfl rfl rfl rfl (m_isOver (d := _) (x) (by omega) (nI r)) ?_
      refine am_if_eq rfl (fun h137 => ?_) (fun h137 => ?_)
      · refine am_iload_n rfl rfl ?_
        refine am_Vx [.int (nI x), .int (nI r)] rfl rfl rfl rfl rfl rfl (m_inside (d := _) N x (nI r) (by omega)) ?_
        refine am_ireturn rfl (fun h => absurd h (by decide)) ⟨?_, S, Scr.rf, rfl⟩
        simp only [hAf, bi_0 h137, cond_false]
      · refine am_aload_n rfl rfl rfl ?_
        refine am_get rfl rfl rfl ?_
        refine am_iload_n rfl rfl ?_
        refine am_iald rfl rfl rfl (by omega) (by decide) ?_
        refine am_goto rfl ?_
        refine am_Vx [.int (nI x), .int (S 47 x)] rfl rfl rfl rfl rfl rfl (m_inside (d := _) N x (S 47 x) (by omega)) ?_
        refine am_ireturn rfl (fun h => absurd h (by decide)) ⟨?_, S, Scr.rf, rfl⟩
        simp only [hAf, bi_1 h137, cond_true]
    | s + 3, hs => exact absurd hs (by omega)
  | 7, M =>
    obtain ⟨h8, _, h10, hr6, hR, hT, hC, hW, hab⟩ := M
    refine am_aload_n rfl rfl rfl ?_
    refine am_get rfl rfl rfl ?_
    rw [h8]
    refine am_swOut rfl (Or.inr (by decide)) ?_
    refine am_aload_n rfl rfl rfl ?_
    refine am_iload_n rfl rfl ?_
    refine am_iload_n rfl rfl ?_
    refine am_iload_n rfl rfl ?_
    have hrt := hR (by decide)
    refine am_Vx [.int (nI x), .int (nI s), .int (nI r)] rfl rfl rfl rfl rfl rfl (m_heldSide (d := _) N hrt.1 hrt.2 x s (nI r) hx hs) ?_
    exact am_ireturn rfl (fun h => absurd h (by decide)) ⟨rfl, S, Scr.rf, rfl⟩
  | k + 8, M => exact absurd M.2.1 (by omega)
theorem m_held0 (h : S 38 8 = -1) (x y : Int32) : AW g d 0 0 139 0 (am_L0 139 [.ref 38, .int x, .int y]) [] (mem ch S) (am_is (some (.int (-2))) (mem ch S)) := by
  refine am_aload_n rfl rfl rfl ?_
  refine am_get rfl rfl rfl ?_
  rw [h]
  refine am_if_lt rfl (fun _ => ?_) (fun h => absurd (by decide) h)
  refine am_bipush rfl ?_
  refine am_goto rfl ?_
  exact am_ireturn rfl (fun h => absurd h (by decide)) ⟨rfl, rfl⟩
theorem m_heldNo (x y : Int32) (h : (decide (0 ≤ x) && decide (x < S 38 0)) = false ∨ y < 0 ∨ ¬ y < 3) : AW g (d + 1) 0 0 139 0 (am_L0 139 [.ref 38, .int x, .int y]) [] (mem ch S) (am_is (some (.int (-2))) (mem ch S)) := by
  refine am_aload_n rfl rfl rfl ?_
  refine am_get rfl rfl rfl ?_
  refine am_if_lt rfl (fun h2 => ?_) (fun h2 => ?_)
  · refine am_bipush rfl ?_
    refine am_goto rfl ?_
    refine am_ireturn rfl (fun h => absurd h (by decide)) ⟨?_, rfl⟩
    rfl
  · refine am_aload_n rfl rfl rfl ?_
    refine am_iload_n rfl rfl ?_
    refine am_Vx [.int (x)] rfl rfl rfl rfl rfl rfl (m_isNode (d := _) (x)) ?_
    refine am_if_eq rfl (fun h6 => ?_) (fun h6 => ?_)
    · refine am_bipush rfl ?_
      refine am_goto rfl ?_
      refine am_ireturn rfl (fun h => absurd h (by decide)) ⟨?_, rfl⟩
      rfl
    · refine am_iload_n rfl rfl ?_
      refine am_if_lt rfl (fun h8 => ?_) (fun h8 => ?_)
      · refine am_bipush rfl ?_
        refine am_goto rfl ?_
        refine am_ireturn rfl (fun h => absurd h (by decide)) ⟨?_, rfl⟩
        rfl
      · refine am_iload_n rfl rfl ?_
        refine am_iconst rfl ?_
        refine am_icmp_le rfl (fun h11 => ?_) (fun h11 => ?_)
        · exact h.elim (fun q => by rw [bi_1 h6] at q; cases q) (fun q => q.elim (fun q => absurd q h8) (fun q => absurd (show y < 3 from Int32.lt_iff_toInt_lt.mpr (by have := Int32.le_iff_toInt_le.mp h11; have h2 : (2 : Int32).toInt = 2 := (by decide); have h3 : (3 : Int32).toInt = 3 := (by decide); omega)) q))
        · refine am_bipush rfl ?_
          refine am_goto rfl ?_
          refine am_ireturn rfl (fun h => absurd h (by decide)) ⟨?_, rfl⟩
          rfl
theorem m_held (N : MN S n q fa fb) (M : MR S n q fa fb k rt r pr rk) (x s : Nat) (hx : x < n) (hs : s < 3) : AW g (d + 4) 0 0 139 0 (am_L0 139 [.ref 38, .int (nI x), .int (nI s)]) [] (mem ch S) (am_sc (hAf S n q fa fb rt pr k x s r) ch S) := by
  have hn := N.2.1
  refine am_aload_n rfl rfl rfl ?_
  refine am_get rfl rfl rfl ?_
  rw [M.1]
  refine am_if_lt rfl (fun h => absurd h (nI_pos (by have := M.2.1; omega))) (fun _ => ?_)
  refine am_aload_n rfl rfl rfl ?_
  refine am_iload_n rfl rfl ?_
  refine am_Vx [.int (nI x)] rfl rfl rfl rfl rfl rfl (m_isNode (d := _) (nI x)) ?_
  rw [isN_to N.1 hn hx]
  refine am_if_eq rfl (fun h => absurd h (by decide)) (fun _ => ?_)
  refine am_iload_n rfl rfl ?_
  refine am_if_lt rfl (fun h => absurd h (nI_pos (by omega))) (fun _ => ?_)
  refine am_iload_n rfl rfl ?_
  refine am_iconst rfl ?_
  refine am_icmp_le rfl (fun _ => ?_) (fun h => absurd (nI_le (b := 2) (by omega) (by decide)) h)
  refine am_aload_n rfl rfl rfl ?_
  refine am_iload_n rfl rfl ?_
  refine am_iload_n rfl rfl ?_
  refine am_aload_n rfl rfl rfl ?_
  refine am_get rfl rfl rfl ?_
  rw [M.2.2.1]
  refine am_V [.int (nI x), .int (nI s), .int (nI r)] rfl rfl rfl rfl rfl rfl (m_heldAfter (d := d) N M x s hx hs) ?_
  rintro _ _ ⟨rfl, S1, hS1, rfl⟩ _
  exact am_ireturn rfl (fun h => absurd h (by decide)) ⟨rfl, S1, hS1, rfl⟩
def dgr (A : Nat → Nat → Option Nat) (n x : Nat) : Int32 := nI (cnt (fun u => (A u x).isSome) n)
/-- lettersOf(v, r + 1) -/
def ltO (S : am_S0) (n q : Nat) (fa fb : Nat → Nat) (rt : Nat) (k r x : Nat) : Int32 := match k with
  | 0 => (match r with | 0 => dgr (bt fa fb q) n x | r + 1 => bif decide (lst (S 42) (S 43) n x (nI (r + 1)) = lst (S 42) (S 43) n x (nI r)) then 0 else dgr (bt fa fb q) n x)
  | 1 => (match r with | 0 => bif decide (x = rt) then dgr (bt fa fb q) n x else 0 | r + 1 => bif decide (hwy (bt fa fb q) (wv fa fb (S 41) rt q) (S 41) n x 0 (r + 1) = hwy (bt fa fb q) (wv fa fb (S 41) rt q) (S 41) n x 0 r) then 0 else dgr (bt fa fb q) n x)
  | 2 => bif decide (x = rt) then 0 else bif decide (S 45 x + 1 = nI (r + 1)) then 1 else 0
  | 3 => bif decide (x = rt) then 0 else 1
  | 6 => (match r with | 0 => 0 | r + 1 => bif decide (S 47 x = nI (r + 1)) then nI (ins (bt fa fb q) (S 47) n x (nI (r + 2))) else 0)
  | 7 => bif decide (S 43 (12 * rt + x) = nI r) then dgr (bt fa fb q) n x else 0
  | _ => 0
theorem nI_m2 (r : Nat) : nI (r + 2) - 2 = nI r := by
  rw [show (2 : Int32) = nI 2 from rfl, pk_sub (by omega)]
  congr 1
theorem m_lettersOf (N : MN S n q fa fb) (M : MR S n q fa fb k rt r pr rk) (x : Nat) (hx : x < n) : AW g (d + 3) 0 0 128 0 (am_L0 128 [.ref 38, .int (nI x), .int (nI (r + 1))]) [] (mem ch S) (am_sc (ltO S n q fa fb rt k r x) ch S) := by
  have hn := N.2.1
  match k, M with
  | 0, M =>
    obtain ⟨h8, _, h10, hr6, hR, hT, hC, hW, hab⟩ := M
    refine am_aload_n rfl rfl rfl ?_
    refine am_get rfl rfl rfl ?_
    rw [h8]
    refine am_swIn (j := 0) rfl (by decide) (by decide) rfl ?_
    have hS1 : Scr S S := Scr.rf
    have N1 := N
    rcases r with _ | r
    · refine am_iload_n rfl rfl ?_
      refine am_iconst rfl ?_
      refine am_icmp_eq rfl (fun _ => ?_) (fun h => absurd (by decide) h)
      refine am_aload_n rfl rfl rfl ?_
      refine am_iload_n rfl rfl ?_
      refine am_Vx [.int (nI x)] rfl rfl rfl rfl rfl rfl (m_degree (d := _) N1 x (by omega)) ?_
      refine am_goto rfl ?_
      refine am_ireturn rfl (fun h => absurd h (by decide)) ⟨?_, S, hS1, rfl⟩
      rfl
    · refine am_iload_n rfl rfl ?_
      refine am_iconst rfl ?_
      refine am_icmp_eq rfl (fun h => absurd ((nI_eq (b := 1) (by omega) (by decide)).mp h) (by omega)) (fun _ => ?_)
      refine am_aload_n rfl rfl rfl ?_
      refine am_iload_n rfl rfl ?_
      refine am_iload_n rfl rfl ?_
      refine am_iconst rfl ?_
      refine am_isub rfl ?_
      rw [nI_pred]
      refine am_Vx [.int (nI x), .int (nI (r + 1))] rfl rfl rfl rfl rfl rfl (m_least (d := _) N x (nI (r + 1)) (by omega)) ?_
      refine am_aload_n rfl rfl rfl ?_
      refine am_iload_n rfl rfl ?_
      refine am_iload_n rfl rfl ?_
      refine am_iconst rfl ?_
      refine am_isub rfl ?_
      rw [nI_m2]
      refine am_Vx [.int (nI x), .int (nI r)] rfl rfl rfl rfl rfl rfl (m_least (d := _) N x (nI r) (by omega)) ?_
      have hl1 : lst (S 42) (S 43) n x (nI r) < 12 := lst_lt (by omega) hn
      have hl2 : lst (S 42) (S 43) n x (nI (r + 1)) < 12 := lst_lt (by omega) hn
      refine am_icmp_eq rfl (fun h => ?_) (fun h => ?_)
      · rw [nI_eq (by omega) (by omega)] at h
        refine am_iconst rfl ?_
        refine am_ireturn rfl (fun h => absurd h (by decide)) ⟨?_, S, hS1, rfl⟩
        simp only [ltO, decide_eq_true h, cond_true]
      · rw [nI_eq (by omega) (by omega)] at h
        refine am_aload_n rfl rfl rfl ?_
        refine am_iload_n rfl rfl ?_
        refine am_Vx [.int (nI x)] rfl rfl rfl rfl rfl rfl (m_degree (d := _) N1 x (by omega)) ?_
        refine am_goto rfl ?_
        refine am_ireturn rfl (fun h => absurd h (by decide)) ⟨?_, S, hS1, rfl⟩
        simp only [ltO, dgr, decide_eq_false h, cond_false]
  | 1, M =>
    obtain ⟨h8, _, h10, hr6, hR, hT, hC, hW, hab⟩ := M
    refine am_aload_n rfl rfl rfl ?_
    refine am_get rfl rfl rfl ?_
    rw [h8]
    refine am_swIn (j := 1) rfl (by decide) (by decide) rfl ?_
    have hrt := hR (by decide)
    rcases r with _ | r
    · have hS1 : Scr S S := Scr.rf
      have N1 := N
      refine am_iload_n rfl rfl ?_
      refine am_iconst rfl ?_
      refine am_icmp_ne rfl (fun h => absurd (by decide) h) (fun _ => ?_)
      refine am_iload_n rfl rfl ?_
      refine am_aload_n rfl rfl rfl ?_
      refine am_get rfl rfl rfl ?_
      rw [hrt.2]
      refine am_icmp_ne rfl (fun h => ?_) (fun h => ?_)
      · rw [nI_eq (by omega) (by omega)] at h
        refine am_iconst rfl ?_
        refine am_goto rfl ?_
        refine am_istore_n rfl ?_
        refine am_iload_n rfl rfl ?_
        refine am_if_eq rfl (fun _ => ?_) (fun h => absurd (by decide) h)
        refine am_iconst rfl ?_
        refine am_ireturn rfl (fun h => absurd h (by decide)) ⟨?_, S, hS1, rfl⟩
        simp only [ltO, decide_eq_false h, cond_false]
      · rw [nI_eq (by omega) (by omega)] at h
        refine am_iconst rfl ?_
        refine am_goto rfl ?_
        refine am_istore_n rfl ?_
        refine am_iload_n rfl rfl ?_
        refine am_if_eq rfl (fun h => absurd h (by decide)) (fun _ => ?_)
        refine am_aload_n rfl rfl rfl ?_
        refine am_iload_n rfl rfl ?_
        refine am_Vx [.int (nI x)] rfl rfl rfl rfl rfl rfl (m_degree (d := _) N1 x (by omega)) ?_
        refine am_goto rfl ?_
        refine am_ireturn rfl (fun h => absurd h (by decide)) ⟨?_, S, hS1, rfl⟩
        simp only [ltO, dgr, decide_eq_true h, cond_true]
    · have hW1 := hW rfl
      refine am_iload_n rfl rfl ?_
      refine am_iconst rfl ?_
      refine am_icmp_ne rfl (fun _ => ?_) (fun h => absurd ((nI_eq (b := 1) (by omega) (by decide)).mp h) (by omega))
      refine am_aload_n rfl rfl rfl ?_
      refine am_iload_n rfl rfl ?_
      refine am_iconst rfl ?_
      refine am_iload_n rfl rfl ?_
      refine am_iconst rfl ?_
      refine am_isub rfl ?_
      rw [nI_pred]
      refine am_V [.int (nI x), .int (nI 0), .int (nI (r + 1))] rfl rfl rfl rfl rfl rfl (m_heldWays (d := _) N rt hrt.1 hrt.2 hab x 0 (r + 1) hx (by decide) hW1) ?_
      rintro _ _ ⟨rfl, S2, hS2, rfl⟩ _
      have N2 := N.scr hS2
      refine am_aload_n rfl rfl rfl ?_
      refine am_iload_n rfl rfl ?_
      refine am_iconst rfl ?_
      refine am_iload_n rfl rfl ?_
      refine am_iconst rfl ?_
      refine am_isub rfl ?_
      rw [nI_m2]
      refine am_V [.int (nI x), .int (nI 0), .int (nI r)] rfl rfl rfl rfl rfl rfl (m_heldWays (d := _) N2 rt hrt.1 (by rw [hS2 38 (by decide) (by decide) (by decide)]; exact hrt.2) hab x 0 r hx (by decide) (by omega)) ?_
      rintro _ _ ⟨rfl, S1, hS3, rfl⟩ _
      have hS1 := hS2.tr hS3
      have N1 := N.scr hS1
      rw [hS2 41 (by decide) (by decide) (by decide)]
      refine am_icmp_eq rfl (fun h => ?_) (fun h => ?_)
      · refine am_iconst rfl ?_
        refine am_istore_n rfl ?_
        refine am_iload_n rfl rfl ?_
        refine am_if_eq rfl (fun _ => ?_) (fun h => absurd (by decide) h)
        refine am_iconst rfl ?_
        refine am_ireturn rfl (fun h => absurd h (by decide)) ⟨?_, S1, hS1, rfl⟩
        simp only [ltO, decide_eq_true h, cond_true]
      · refine am_iconst rfl ?_
        refine am_goto rfl ?_
        refine am_istore_n rfl ?_
        refine am_iload_n rfl rfl ?_
        refine am_if_eq rfl (fun h => absurd h (by decide)) (fun _ => ?_)
        refine am_aload_n rfl rfl rfl ?_
        refine am_iload_n rfl rfl ?_
        refine am_Vx [.int (nI x)] rfl rfl rfl rfl rfl rfl (m_degree (d := _) N1 x (by omega)) ?_
        refine am_goto rfl ?_
        refine am_ireturn rfl (fun h => absurd h (by decide)) ⟨?_, S1, hS1, rfl⟩
        simp only [ltO, dgr, decide_eq_false h, cond_false]
  | 2, M =>
    obtain ⟨h8, _, h10, hr6, hR, hT, hC, hW, hab⟩ := M
    refine am_aload_n rfl rfl rfl ?_
    refine am_get rfl rfl rfl ?_
    rw [h8]
    refine am_swIn (j := 2) rfl (by decide) (by decide) rfl ?_
    have hrt := hR (by decide)
    refine am_iload_n rfl rfl ?_
    refine am_aload_n rfl rfl rfl ?_
    refine am_get rfl rfl rfl ?_
    rw [hrt.2]
    refine am_icmp_eq rfl (fun h66 => ?_) (fun h66 => ?_)
    · refine am_iconst rfl ?_
      refine am_ireturn rfl (fun h => absurd h (by decide)) ⟨?_, S, Scr.rf, rfl⟩
      simp only [ltO, decide_eq_true ((nI_eq (by omega) (by omega)).mp h66), cond_true, cond_false]
    · refine am_aload_n rfl rfl rfl ?_
      refine am_get rfl rfl rfl ?_
      refine am_iload_n rfl rfl ?_
      refine am_iald rfl rfl rfl (by omega) (by decide) ?_
      refine am_iconst rfl ?_
      refine am_iadd rfl ?_
      refine am_iload_n rfl rfl ?_
      refine am_icmp_ne rfl (fun h74 => ?_) (fun h74 => ?_)
      · refine am_iconst rfl ?_
        refine am_ireturn rfl (fun h => absurd h (by decide)) ⟨?_, S, Scr.rf, rfl⟩
        simp only [ltO, decide_eq_false (fun q => h66 ((nI_eq (by omega) (by omega)).mpr q)), decide_eq_false h74, cond_true, cond_false]
      · refine am_iconst rfl ?_
        refine am_goto rfl ?_
        refine am_ireturn rfl (fun h => absurd h (by decide)) ⟨?_, S, Scr.rf, rfl⟩
        simp only [ltO, decide_eq_false (fun q => h66 ((nI_eq (by omega) (by omega)).mpr q)), decide_eq_true h74, cond_true, cond_false]
  | 3, M =>
    obtain ⟨h8, _, h10, hr6, hR, hT, hC, hW, hab⟩ := M
    refine am_aload_n rfl rfl rfl ?_
    refine am_get rfl rfl rfl ?_
    rw [h8]
    refine am_swIn (j := 3) rfl (by decide) (by decide) rfl ?_
    have hrt := hR (by decide)
    refine am_iload_n rfl rfl ?_
    refine am_aload_n rfl rfl rfl ?_
    refine am_get rfl rfl rfl ?_
    rw [hrt.2]
    refine am_icmp_ne rfl (fun h82 => ?_) (fun h82 => ?_)
    · refine am_iconst rfl ?_
      refine am_ireturn rfl (fun h => absurd h (by decide)) ⟨?_, S, Scr.rf, rfl⟩
      simp only [ltO, decide_eq_false (fun q => h82 ((nI_eq (by omega) (by omega)).mpr q)), cond_true, cond_false]
    · refine am_iconst rfl ?_
      refine am_goto rfl ?_
      refine am_ireturn rfl (fun h => absurd h (by decide)) ⟨?_, S, Scr.rf, rfl⟩
      simp only [ltO, decide_eq_true ((nI_eq (by omega) (by omega)).mp h82), cond_true, cond_false]
  | 4, M =>
    obtain ⟨h8, _, h10, hr6, hR, hT, hC, hW, hab⟩ := M
    refine am_aload_n rfl rfl rfl ?_
    refine am_get rfl rfl rfl ?_
    rw [h8]
    refine am_swIn (j := 4) rfl (by decide) (by decide) rfl ?_
    refine am_iconst rfl ?_
    refine am_ireturn rfl (fun h => absurd h (by decide)) ⟨?_, S, Scr.rf, rfl⟩
    rfl
  | 5, M =>
    obtain ⟨h8, _, h10, hr6, hR, hT, hC, hW, hab⟩ := M
    refine am_aload_n rfl rfl rfl ?_
    refine am_get rfl rfl rfl ?_
    rw [h8]
    refine am_swIn (j := 5) rfl (by decide) (by decide) rfl ?_
    refine am_iconst rfl ?_
    refine am_ireturn rfl (fun h => absurd h (by decide)) ⟨?_, S, Scr.rf, rfl⟩
    rfl
  | 6, M =>
    obtain ⟨h8, _, h10, hr6, hR, hT, hC, hW, hab⟩ := M
    refine am_aload_n rfl rfl rfl ?_
    refine am_get rfl rfl rfl ?_
    rw [h8]
    refine am_swIn (j := 6) rfl (by decide) (by decide) rfl ?_
    rcases r with _ | r
    · refine am_iload_n rfl rfl ?_
      refine am_iconst rfl ?_
      refine am_icmp_le rfl (fun _ => ?_) (fun h => absurd (by decide) h)
      refine am_iconst rfl ?_
      refine am_ireturn rfl (fun h => absurd h (by decide)) ⟨?_, S, Scr.rf, rfl⟩
      rfl
    · refine am_iload_n rfl rfl ?_
      refine am_iconst rfl ?_
      refine am_icmp_le rfl (fun h => absurd h (nI_ge (a := 1) (by omega) (by omega))) (fun _ => ?_)
      refine am_aload_n rfl rfl rfl ?_
      refine am_get rfl rfl rfl ?_
      refine am_iload_n rfl rfl ?_
      refine am_iald rfl rfl rfl (by omega) (by decide) ?_
      refine am_iload_n rfl rfl ?_
      refine am_iconst rfl ?_
      refine am_isub rfl ?_
      rw [nI_pred]
      refine am_icmp_ne rfl (fun h97 => ?_) (fun h97 => ?_)
      · refine am_iconst rfl ?_
        refine am_ireturn rfl (fun h => absurd h (by decide)) ⟨?_, S, Scr.rf, rfl⟩
        simp only [ltO, decide_eq_false h97, cond_true, cond_false]
      · refine am_aload_n rfl rfl rfl ?_
        refine am_iload_n rfl rfl ?_
        refine am_iload_n rfl rfl ?_
        refine am_Vx [.int (nI x), .int (nI (r + 2))] rfl rfl rfl rfl rfl rfl (m_inside (d := _) N x (nI (r + 2)) (by omega)) ?_
        refine am_goto rfl ?_
        refine am_ireturn rfl (fun h => absurd h (by decide)) ⟨?_, S, Scr.rf, rfl⟩
        simp only [ltO, decide_eq_true h97, cond_true, cond_false]
  | 7, M =>
    obtain ⟨h8, _, h10, hr6, hR, hT, hC, hW, hab⟩ := M
    refine am_aload_n rfl rfl rfl ?_
    refine am_get rfl rfl rfl ?_
    rw [h8]
    refine am_swIn (j := 7) rfl (by decide) (by decide) rfl ?_
    have hrt := hR (by decide)
    refine am_aload_n rfl rfl rfl ?_
    refine am_aload_n rfl rfl rfl ?_
    refine am_get rfl rfl rfl ?_
    rw [hrt.2]
    refine am_iload_n rfl rfl ?_
    refine am_Vx [.int (nI rt), .int (nI x)] rfl rfl rfl rfl rfl rfl (m_far (d := _) rt x (by omega) (by omega)) ?_
    refine am_iload_n rfl rfl ?_
    refine am_iconst rfl ?_
    refine am_isub rfl ?_
    rw [nI_pred]
    refine am_icmp_ne rfl (fun h113 => ?_) (fun h113 => ?_)
    · refine am_iconst rfl ?_
      refine am_ireturn rfl (fun h => absurd h (by decide)) ⟨?_, S, Scr.rf, rfl⟩
      simp only [ltO, dgr, decide_eq_false h113, cond_true, cond_false]
    · refine am_aload_n rfl rfl rfl ?_
      refine am_iload_n rfl rfl ?_
      refine am_Vx [.int (nI x)] rfl rfl rfl rfl rfl rfl (m_degree (d := _) N (x) (by omega)) ?_
      refine am_goto rfl ?_
      refine am_ireturn rfl (fun h => absurd h (by decide)) ⟨?_, S, Scr.rf, rfl⟩
      simp only [ltO, dgr, decide_eq_true h113, cond_true, cond_false]
  | k + 8, M => exact absurd M.2.1 (by omega)
end MM10
