/-! the model: ways -/
/-- all but the scratch cells is as before -/
def Scr (S S1 : am_S0) : Prop := ∀ j, j ≠ 48 → j ≠ 49 → j ≠ 50 → S1 j = S j
theorem Scr.rf {S : am_S0} : Scr S S := fun _ _ _ _ => rfl
theorem Scr.tr {S S1 S2 : am_S0} (h : Scr S S1) (h2 : Scr S1 S2) : Scr S S2 := fun j a b c => by rw [h2 j a b c, h j a b c]
theorem Scr.up {S S1 : am_S0} {k : Nat} {f : Nat → Int32} (h : Scr S S1) (hk : k = 48 ∨ k = 49 ∨ k = 50) : Scr S (am_up S1 k f) := fun j a b c => by
  rw [am_up_ne _ _ (by omega)]
  exact h j a b c
def am_sc (r0 : Int32) (ch : Option Nat) (S : am_S0) : am_K := fun r M => r = some (.int r0) ∧ ∃ S1, Scr S S1 ∧ M = mem ch S1
theorem MN.scr {S S1 : am_S0} {n q : Nat} {fa fb : Nat → Nat} (h : MN S n q fa fb) (A : Scr S S1) : MN S1 n q fa fb := h.eq (by rw [A 38 (by decide) (by decide) (by decide)]) (by rw [A 38 (by decide) (by decide) (by decide)]) (A 39 (by decide) (by decide) (by decide)) (A 40 (by decide) (by decide) (by decide))
def wy0 (rt v : Nat) : Int32 := bif decide (v = rt) then 0 else 1000000
def wy1 (fa fb : Nat → Nat) (w f : Nat → Int32) (r v e : Nat) (b : Int32) : Int32 := bif isf fa fb e v then (bif decide (b ≤ f (12 * r + oth fa fb e v) + w e) then b else f (12 * r + oth fa fb e v) + w e) else b
def wyB (fa fb : Nat → Nat) (w : Nat → Int32) (rt q : Nat) (r v : Nat) (f : Nat → Int32) : Int32 := match r with
  | 0 => wy0 rt v
  | r + 1 => itr (wy1 fa fb w f r v) q (wy0 rt v)
def cap (b : Int32) : Int32 := bif decide (1000000 ≤ b) then 1000000 else b
def wyV (fa fb : Nat → Nat) (w : Nat → Int32) (rt q : Nat) (r v : Nat) (f : Nat → Int32) : Nat → Int32 := upd f (12 * r + v) (cap (wyB fa fb w rt q r v f))
def rkw (fa fb : Nat → Nat) (w : Nat → Int32) (rt n q k : Nat) (f : Nat → Int32) : Nat → Int32 := itr (fun r => itr (wyV fa fb w rt q r) n) k f
theorem ixo {fa fb : Nat → Nat} {e v r : Nat} (h : isf fa fb e v = true) : (12 * (nI (r + 1) - 1) + nI (fa e) + nI (fb e)) - nI v = nI (12 * r + oth fa fb e v) := by
  rw [nI_pred, show (12 : Int32) = nI 12 from rfl, pk_mul, nI_add, nI_add]
  unfold isf at h
  unfold oth
  by_cases e9 : fa e = v
  · rw [decide_eq_true e9, cond_true, ← e9, pk_sub (by omega)]
    congr 1
    omega
  · rw [decide_eq_false e9, Bool.false_or] at h
    rw [decide_eq_false e9, cond_false, ← of_decide_eq_true h, pk_sub (by omega)]
    congr 1
    omega
section MM8
variable {g : am_G} {d : Nat} {ch : Option Nat} {S : am_S0} {n q : Nat} {fa fb : Nat → Nat}
theorem m_wyE (N : MN S n q fa fb) {K : am_K} (R r x : Nat) (hr : r < 12) (hx : x < 12) (b0 : Int32) (z0 : Option Value) (kk : ∀ z, AW g (d + 1) 0 0 132 67 [some (.ref 38), some (.int (nI R)), some (.int (nI (r + 1))), some (.int (nI x)), some (.int (itr (wy1 fa fb (S 41) (S 48) r x) q b0)), some (.int (nI q)), z] [] (mem ch S) K) : AW g (d + 1) 0 0 132 21 [some (.ref 38), some (.int (nI R)), some (.int (nI (r + 1))), some (.int (nI x)), some (.int b0), some (.int (nI 0)), z0] [] (mem ch S) K := by
  have hn := N.2.1
  have hq := N.2.2.2.1
  refine am_forS (q) (fun v z => [some (.ref 38), some (.int (nI R)), some (.int (nI (r + 1))), some (.int (nI x)), some (.int (itr (wy1 fa fb (S 41) (S 48) r x) v b0)), some (.int (nI v)), z]) (fun v z => mem ch S) (fun v z => True) (fun v z hv _ k => ?_) (fun z _ => ?_) (q) 0 (z0) (by omega) trivial
  · obtain ⟨e1, e2, l1, l2⟩ := N.2.2.2.2 v hv
    have o1 : oth fa fb v x < 12 := oth_lt l1 l2
    rw [itr_s] at k
    generalize itr (wy1 fa fb (S 41) (S 48) r x) v b0 = b at k ⊢
    refine am_iload rfl rfl ?_
    refine am_aload_n rfl rfl rfl ?_
    refine am_get rfl rfl rfl ?_
    refine am_icmp_ge rfl (fun h => absurd h (ed_lt N hv)) (fun _ => ?_)
    refine am_iload_n rfl rfl ?_
    refine am_if_le rfl (fun h => absurd h (nI_nle (by omega) (by omega))) (fun _ => ?_)
    refine am_aload_n rfl rfl rfl ?_
    refine am_iload rfl rfl ?_
    refine am_iload_n rfl rfl ?_
    refine am_Vx [.int (nI v), .int (nI x)] rfl rfl rfl rfl rfl rfl (m_isOf (d := _) N (v) (x) (by omega) (by omega)) ?_
    refine am_if_eq rfl (fun h31 => ?_) (fun h31 => ?_)
    · refine am_iinc rfl rfl ?_
      refine am_goto rfl ?_
      simp only [wy1, bi_0 h31, cond_true, cond_false, nI_succ v] at k
      exact k _ trivial
    · refine am_aload_n rfl rfl rfl ?_
      refine am_get rfl rfl rfl ?_
      refine am_bipush rfl ?_
      refine am_iload_n rfl rfl ?_
      refine am_iconst rfl ?_
      refine am_isub rfl ?_
      refine am_imul rfl ?_
      refine am_aload_n rfl rfl rfl ?_
      refine am_get rfl rfl rfl ?_
      refine am_iload rfl rfl ?_
      refine am_iald rfl rfl rfl (by omega) (by decide) ?_
      rw [e1]
      refine am_iadd rfl ?_
      refine am_aload_n rfl rfl rfl ?_
      refine am_get rfl rfl rfl ?_
      refine am_iload rfl rfl ?_
      refine am_iald rfl rfl rfl (by omega) (by decide) ?_
      rw [e2]
      refine am_iadd rfl ?_
      refine am_iload_n rfl rfl ?_
      refine am_isub rfl ?_
      rw [ixo (bi_1 h31)]
      refine am_iald rfl rfl rfl (by omega) (by decide) ?_
      refine am_aload_n rfl rfl rfl ?_
      refine am_get rfl rfl rfl ?_
      refine am_iload rfl rfl ?_
      refine am_iald rfl rfl rfl (by omega) (by decide) ?_
      refine am_iadd rfl ?_
      refine am_istore rfl ?_
      refine am_iload rfl rfl ?_
      refine am_iload rfl rfl ?_
      refine am_icmp_ge rfl (fun h60 => ?_) (fun h60 => ?_)
      · refine am_iload rfl rfl ?_
        refine am_istore rfl ?_
        refine am_iinc rfl rfl ?_
        refine am_goto rfl ?_
        simp only [wy1, bi_1 h31, decide_eq_true h60, cond_true, cond_false, nI_succ v] at k
        exact k _ trivial
      · refine am_iload rfl rfl ?_
        refine am_goto rfl ?_
        refine am_istore rfl ?_
        refine am_iinc rfl rfl ?_
        refine am_goto rfl ?_
        simp only [wy1, bi_1 h31, decide_eq_false h60, cond_true, cond_false, nI_succ v] at k
        exact k _ trivial
  · refine am_iload rfl rfl ?_
    refine am_aload_n rfl rfl rfl ?_
    refine am_get rfl rfl rfl ?_
    refine am_icmp_ge rfl (fun _ => ?_) (fun h => absurd (ed_ge N) h)
    exact kk z
theorem m_wyR (N : MN S n q fa fb) {K : am_K} (R rt r x : Nat) (hr : r ≤ 12) (hx : x < 12) (z0 : Option Value) (kk : ∀ y z, AW g (d + 1) 0 0 132 67 [some (.ref 38), some (.int (nI R)), some (.int (nI r)), some (.int (nI x)), some (.int (wyB fa fb (S 41) rt q r x (S 48))), y, z] [] (mem ch S) K) : AW g (d + 1) 0 0 132 21 [some (.ref 38), some (.int (nI R)), some (.int (nI r)), some (.int (nI x)), some (.int (wy0 rt x)), some (.int (nI 0)), z0] [] (mem ch S) K := by
  rcases r with _ | r
  · refine am_iload rfl rfl ?_
    refine am_aload_n rfl rfl rfl ?_
    refine am_get rfl rfl rfl ?_
    refine am_icmp_ge rfl (fun _ => kk _ _) (fun _ => ?_)
    refine am_iload_n rfl rfl ?_
    refine am_if_le rfl (fun _ => kk _ _) (fun h => absurd (by decide) h)
  · exact m_wyE N R r x (by omega) hx (wy0 rt x) z0 (fun z => kk _ z)
/-- reckonWays(rounds) -/
theorem m_reckon (N : MN S n q fa fb) (rt : Nat) (hrt : rt < n) (hr : S 38 9 = nI rt) (R : Nat) (hR : R ≤ 12) : AW g (d + 1) 0 0 132 0 (am_L0 132 [.ref 38, .int (nI R)]) [] (mem ch S) (am_is none (mem ch (am_up S 48 (rkw fa fb (S 41) rt n q (R + 1) (S 48))))) := by
  have hn := N.2.1
  refine am_iconst rfl ?_
  refine am_istore_n rfl ?_
  refine am_Meq (M' := mem ch (am_up S 48 (rkw fa fb (S 41) rt n q 0 (S 48)))) (by show mem ch S = mem ch (am_up S 48 (S 48)); rw [am_up_self]) ?_
  show AW g _ 0 0 132 2 [some (.ref 38), some (.int (nI R)), some (.int (nI 0)), none, none, none, none] [] _ _
  refine am_forS (R + 1) (fun r s => [some (.ref 38), some (.int (nI R)), some (.int (nI r)), s.1, s.2.1, s.2.2.1, s.2.2.2]) (fun r s => mem ch (am_up S 48 (rkw fa fb (S 41) rt n q r (S 48)))) (fun r s => True) (fun r s hv1 _ k1 => ?_) (fun s _ => ?_) (R + 1) 0 ((none, none, none, none)) (by omega) trivial
  · unfold rkw at k1 ⊢
    rw [itr_s] at k1
    generalize itr (fun r => itr (wyV fa fb (S 41) rt q r) n) r (S 48) = F at k1 ⊢
    refine am_iload_n rfl rfl ?_
    refine am_iload_n rfl rfl ?_
    refine am_icmp_gt rfl (fun h => absurd h (nI_nlt (by omega) (by omega))) (fun _ => ?_)
    refine am_iconst rfl ?_
    refine am_istore_n rfl ?_
    show AW g _ 0 0 132 7 [some (.ref 38), some (.int (nI R)), some (.int (nI r)), some (.int (nI 0)), s.2.1, s.2.2.1, s.2.2.2] [] (mem ch (am_up S 48 (itr (wyV fa fb (S 41) rt q r) 0 F))) _
    refine am_forS (n) (fun v s2 => [some (.ref 38), some (.int (nI R)), some (.int (nI r)), some (.int (nI v)), s2.1, s2.2.1, s2.2.2]) (fun v s2 => mem ch (am_up S 48 (itr (wyV fa fb (S 41) rt q r) v F))) (fun v s2 => True) (fun v s2 hv _ k => ?_) (fun s2 _ => ?_) (n) 0 ((s.2.1, s.2.2.1, s.2.2.2)) (by omega) trivial
    · rw [itr_s] at k
      generalize itr (wyV fa fb (S 41) rt q r) v F = F1 at k ⊢
      refine am_iload_n rfl rfl ?_
      refine am_aload_n rfl rfl rfl ?_
      refine am_get rfl rfl rfl ?_
      refine am_icmp_ge rfl (fun h => absurd h (nm_lt (N.up (k := 48) (by decide)).1 hn hv)) (fun _ => ?_)
      refine am_iload_n rfl rfl ?_
      refine am_aload_n rfl rfl rfl ?_
      refine am_get rfl rfl rfl ?_
      rw [show am_up S 48 F1 38 9 = nI rt from hr]
      refine am_icmp_ne rfl (fun h14 => ?_) (fun h14 => ?_)
      · rw [nI_eq (by omega) (by omega)] at h14
        refine am_ldc rfl ?_
        refine am_istore rfl ?_
        refine am_iconst rfl ?_
        refine am_istore rfl ?_
        show AW g (d + 1) 0 0 132 21 [some (.ref 38), some (.int (nI R)), some (.int (nI r)), some (.int (nI v)), some (.int 1000000), some (.int (nI 0)), s2.2.2] [] _ _
        rw [show (1000000 : Int32) = wy0 rt v by unfold wy0; rw [decide_eq_false h14]; rfl]
        refine m_wyR (d := d) (N.up (k := 48) (by decide)) R rt r v (by omega) (by omega) s2.2.2 (fun y z => ?_)
        refine am_aload_n rfl rfl rfl ?_
        refine am_get rfl rfl rfl ?_
        refine am_bipush rfl ?_
        refine am_iload_n rfl rfl ?_
        refine am_imul rfl ?_
        refine am_iload_n rfl rfl ?_
        refine am_iadd rfl ?_
        refine am_iload rfl rfl ?_
        refine am_ldc rfl ?_
        refine am_icmp_ge rfl (fun h76 => ?_) (fun h76 => ?_)
        · refine am_ldc rfl ?_
          refine am_iast rfl rfl (ix12 _ _) (by omega) (by decide) ?_
          refine am_Meq ms48 ?_
          refine am_iinc rfl rfl ?_
          refine am_goto rfl ?_
          simp only [wyV, cap, decide_eq_true (show 1000000 ≤ wyB fa fb (S 41) rt q r v F1 from h76), cond_true, cond_false, nI_succ] at k
          exact k (_, _, _) trivial
        · refine am_iload rfl rfl ?_
          refine am_goto rfl ?_
          refine am_iast rfl rfl (ix12 _ _) (by omega) (by decide) ?_
          refine am_Meq ms48 ?_
          refine am_iinc rfl rfl ?_
          refine am_goto rfl ?_
          simp only [wyV, cap, decide_eq_false (show ¬ 1000000 ≤ wyB fa fb (S 41) rt q r v F1 from h76), cond_true, cond_false, nI_succ] at k
          exact k (_, _, _) trivial
      · rw [nI_eq (by omega) (by omega)] at h14
        refine am_iconst rfl ?_
        refine am_goto rfl ?_
        refine am_istore rfl ?_
        refine am_iconst rfl ?_
        refine am_istore rfl ?_
        show AW g (d + 1) 0 0 132 21 [some (.ref 38), some (.int (nI R)), some (.int (nI r)), some (.int (nI v)), some (.int 0), some (.int (nI 0)), s2.2.2] [] _ _
        rw [show (0 : Int32) = wy0 rt v by unfold wy0; rw [decide_eq_true h14]; rfl]
        refine m_wyR (d := d) (N.up (k := 48) (by decide)) R rt r v (by omega) (by omega) s2.2.2 (fun y z => ?_)
        refine am_aload_n rfl rfl rfl ?_
        refine am_get rfl rfl rfl ?_
        refine am_bipush rfl ?_
        refine am_iload_n rfl rfl ?_
        refine am_imul rfl ?_
        refine am_iload_n rfl rfl ?_
        refine am_iadd rfl ?_
        refine am_iload rfl rfl ?_
        refine am_ldc rfl ?_
        refine am_icmp_ge rfl (fun h76 => ?_) (fun h76 => ?_)
        · refine am_ldc rfl ?_
          refine am_iast rfl rfl (ix12 _ _) (by omega) (by decide) ?_
          refine am_Meq ms48 ?_
          refine am_iinc rfl rfl ?_
          refine am_goto rfl ?_
          simp only [wyV, cap, decide_eq_true (show 1000000 ≤ wyB fa fb (S 41) rt q r v F1 from h76), cond_true, cond_false, nI_succ] at k
          exact k (_, _, _) trivial
        · refine am_iload rfl rfl ?_
          refine am_goto rfl ?_
          refine am_iast rfl rfl (ix12 _ _) (by omega) (by decide) ?_
          refine am_Meq ms48 ?_
          refine am_iinc rfl rfl ?_
          refine am_goto rfl ?_
          simp only [wyV, cap, decide_eq_false (show ¬ 1000000 ≤ wyB fa fb (S 41) rt q r v F1 from h76), cond_true, cond_false, nI_succ] at k
          exact k (_, _, _) trivial
    · refine am_iload_n rfl rfl ?_
      refine am_aload_n rfl rfl rfl ?_
      refine am_get rfl rfl rfl ?_
      refine am_icmp_ge rfl (fun _ => ?_) (fun h => absurd (nm_ge (N.up (k := 48) (by decide)).1 hn) h)
      refine am_iinc rfl rfl ?_
      refine am_goto rfl ?_
      simp only [nI_succ] at k1
      exact k1 (_, _, _, _) trivial
  · refine am_iload_n rfl rfl ?_
    refine am_iload_n rfl rfl ?_
    refine am_icmp_gt rfl (fun _ => ?_) (fun h => absurd (nI_lt (Nat.lt_succ_self R) (by omega)) h)
    exact am_return rfl ⟨rfl, rfl⟩
/-- the least sums, round by round -/
def wv (fa fb : Nat → Nat) (w : Nat → Int32) (rt q : Nat) : Nat → Nat → Int32
  | 0 => wy0 rt
  | r + 1 => fun v => cap (itr (fun e b => bif isf fa fb e v then (bif decide (b ≤ wv fa fb w rt q r (oth fa fb e v) + w e) then b else wv fa fb w rt q r (oth fa fb e v) + w e) else b) q (wy0 rt v))
theorem itr_congr {σ : Type} {f h : Nat → σ → σ} : ∀ {k : Nat} {s : σ}, (∀ j, j < k → ∀ s, f j s = h j s) → itr f k s = itr h k s
  | 0, _, _ => rfl
  | k + 1, s, e => by
    rw [itr_s, itr_s, itr_congr (k := k) (s := s) (fun j hj => e j (by omega)), e k (by omega)]
theorem wyB_wv {w f : Nat → Int32} {rt r v : Nat} (hv : v < n) (hab : ∀ e, e < q → fa e < n ∧ fb e < n) (h : ∀ s, s < r → ∀ u, u < n → f (12 * s + u) = wv fa fb w rt q s u) : cap (wyB fa fb w rt q r v f) = wv fa fb w rt q r v := by
  cases r with
  | zero =>
    show cap (wy0 rt v) = wy0 rt v
    unfold wy0
    cases decide (v = rt) <;> rfl
  | succ r =>
    show cap (itr (wy1 fa fb w f r v) q (wy0 rt v)) = cap _
    congr 1
    refine itr_congr (fun e he b => ?_)
    have ho : oth fa fb e v < n := by
      unfold oth
      have := hab e he
      cases decide (fa e = v)
      · exact this.1
      · exact this.2
    unfold wy1
    rw [h r (by omega) _ ho]
theorem wyI_wv {w : Nat → Int32} {rt r : Nat} (hn : n ≤ 12) (hab : ∀ e, e < q → fa e < n ∧ fb e < n) {f : Nat → Int32} (h : ∀ s, s < r → ∀ u, u < n → f (12 * s + u) = wv fa fb w rt q s u) : ∀ k, k ≤ n → (∀ s, s < r → ∀ u, u < n → itr (wyV fa fb w rt q r) k f (12 * s + u) = wv fa fb w rt q s u) ∧ ∀ u, u < k → itr (wyV fa fb w rt q r) k f (12 * r + u) = wv fa fb w rt q r u
  | 0, _ => ⟨h, fun u hu => absurd hu (Nat.not_lt_zero _)⟩
  | k + 1, hk => by
    obtain ⟨h1, h2⟩ := wyI_wv hn hab h k (by omega)
    rw [itr_s]
    generalize itr (wyV fa fb w rt q r) k f = F at h1 h2
    unfold wyV
    constructor
    · intro s hs u hu
      rw [pk_un (by omega)]
      exact h1 s hs u hu
    · intro u hu
      by_cases e : u = k
      · subst e
        rw [pk_us]
        exact wyB_wv (by omega) hab h1
      · rw [pk_un (by omega)]
        exact h2 u (by omega)
theorem rkw_wv {w : Nat → Int32} {rt : Nat} (hn : n ≤ 12) (hab : ∀ e, e < q → fa e < n ∧ fb e < n) (f : Nat → Int32) : ∀ k, ∀ s, s < k → ∀ u, u < n → rkw fa fb w rt n q k f (12 * s + u) = wv fa fb w rt q s u
  | 0, s, hs, _, _ => absurd hs (Nat.not_lt_zero _)
  | k + 1, s, hs, u, hu => by
    have ih := rkw_wv (w := w) (rt := rt) hn hab f k
    have h := wyI_wv hn hab ih n (Nat.le_refl _)
    show itr (wyV fa fb w rt q k) n (rkw fa fb w rt n q k f) (12 * s + u) = _
    by_cases e : s = k
    · subst e
      exact h.2 u hu
    · exact h.1 s (by omega) u hu
def lwy (W : Nat → Int32) : Nat → Nat
  | 0 => 0
  | t + 1 => bif decide (W (t + 1) = W t) then lwy W t else t + 1
theorem lwy_le (W : Nat → Int32) : ∀ t, lwy W t ≤ t
  | 0 => Nat.le_refl _
  | t + 1 => by
    have := lwy_le W t
    unfold lwy
    cases decide (W (t + 1) = W t)
    · exact Nat.le_refl _
    · show lwy W t ≤ t + 1
      omega
/-- lastWay(v, r) -/
theorem m_lastW (x : Nat) (hx : x < 12) (W : Nat → Int32) (y : Option Value) : ∀ t, t ≤ 12 → (∀ s, s ≤ t → S 48 (12 * s + x) = W s) → AW g (d + 1) 0 0 133 2 [some (.ref 38), some (.int (nI x)), y, some (.int (nI t))] [] (mem ch S) (am_is (some (.int (nI (lwy W t)))) (mem ch S))
  | 0, _, _ => by
    refine am_iload_n rfl rfl ?_
    refine am_if_le rfl (fun _ => ?_) (fun h => absurd (by decide) h)
    refine am_iload_n rfl rfl ?_
    refine am_ireturn rfl (fun h => absurd h (by decide)) ⟨rfl, rfl⟩
  | t + 1, ht, hW => by
    have ih := m_lastW x hx W y t (by omega) (fun s hs => hW s (by omega))
    refine am_iload_n rfl rfl ?_
    refine am_if_le rfl (fun h => absurd h (nI_nle (by omega) (by omega))) (fun _ => ?_)
    refine am_aload_n rfl rfl rfl ?_
    refine am_iload_n rfl rfl ?_
    refine am_iload_n rfl rfl ?_
    refine am_Vx [.int (nI x), .int (nI (t + 1))] rfl rfl rfl rfl rfl rfl (m_wayOf (d := _) x (t + 1) (by omega) (by omega)) ?_
    refine am_aload_n rfl rfl rfl ?_
    refine am_iload_n rfl rfl ?_
    refine am_iload_n rfl rfl ?_
    refine am_iconst rfl ?_
    refine am_isub rfl ?_
    rw [nI_pred]
    refine am_Vx [.int (nI x), .int (nI t)] rfl rfl rfl rfl rfl rfl (m_wayOf (d := _) x t (by omega) (by omega)) ?_
    rw [hW (t + 1) (by omega), hW t (by omega)]
    refine am_icmp_ne rfl (fun h => ?_) (fun h => ?_)
    · refine am_iload_n rfl rfl ?_
      refine am_ireturn rfl (fun h => absurd h (by decide)) ⟨?_, rfl⟩
      simp only [lwy, decide_eq_false h, cond_false]
    · refine am_iinc rfl rfl ?_
      refine am_goto rfl ?_
      simp only [lwy, decide_eq_true h, cond_true]
      rw [pk_m1]
      exact ih
theorem m_lastWay (x t : Nat) (hx : x < 12) (ht : t ≤ 12) (W : Nat → Int32) (hW : ∀ s, s ≤ t → S 48 (12 * s + x) = W s) : AW g (d + 1) 0 0 133 0 (am_L0 133 [.ref 38, .int (nI x), .int (nI t)]) [] (mem ch S) (am_is (some (.int (nI (lwy W t)))) (mem ch S)) := by
  refine am_iload_n rfl rfl ?_
  refine am_istore_n rfl ?_
  exact m_lastW x hx W _ t ht hW
def hwy1 (A : Nat → Nat → Option Nat) (W : Nat → Nat → Int32) (w : Nat → Int32) (x t u : Nat) : Bool := match A u x with
  | none => false
  | some e => decide (W t u + w e = W (t + 1) x)
/-- heldWays(v, slot, r) -/
def hwy (A : Nat → Nat → Option Nat) (W : Nat → Nat → Int32) (w : Nat → Int32) (n x s r : Nat) : Int32 := match s with
  | 0 => bif decide (1000000 ≤ W r x) then -1 else W r x
  | 2 => nI (lwy (fun t => W t x) r)
  | _ => match lwy (fun t => W t x) r with
    | 0 => -1
    | t + 1 => em (fst? (hwy1 A W w x t) n)
theorem m_heldWays (N : MN S n q fa fb) (rt : Nat) (hrt : rt < n) (hr : S 38 9 = nI rt) (hab : ∀ e, e < q → fa e < n ∧ fb e < n) (x s r : Nat) (hx : x < n) (hs : s < 3) (hr12 : r ≤ 12) : AW g (d + 2) 0 0 131 0 (am_L0 131 [.ref 38, .int (nI x), .int (nI s), .int (nI r)]) [] (mem ch S) (am_sc (hwy (bt fa fb q) (wv fa fb (S 41) rt q) (S 41) n x s r) ch S) := by
  have hn := N.2.1
  refine am_iload_n rfl rfl ?_
  refine am_bipush rfl ?_
  refine am_icmp_le rfl (fun _ => ?_) (fun h => absurd (nI_le hr12 (by decide)) h)
  refine am_iload_n rfl rfl ?_
  refine am_istore rfl ?_
  refine am_aload_n rfl rfl rfl ?_
  refine am_iload rfl rfl ?_
  refine am_Vx [.int (nI r)] rfl rfl rfl rfl rfl rfl (m_reckon (d := d) N rt hrt hr r hr12) ?_
  have hS1 : Scr S (am_up S 48 (rkw fa fb (S 41) rt n q (r + 1) (S 48))) := Scr.rf.up (Or.inl rfl)
  have N1 : MN (am_up S 48 (rkw fa fb (S 41) rt n q (r + 1) (S 48))) n q fa fb := N.scr hS1
  have hW : ∀ t, t ≤ r → ∀ u, u < n → am_up S 48 (rkw fa fb (S 41) rt n q (r + 1) (S 48)) 48 (12 * t + u) = wv fa fb (S 41) rt q t u := fun t ht u hu => rkw_wv hn hab (S 48) (r + 1) t (by omega) u hu
  have h41 : am_up S 48 (rkw fa fb (S 41) rt n q (r + 1) (S 48)) 41 = S 41 := rfl
  generalize am_up S 48 (rkw fa fb (S 41) rt n q (r + 1) (S 48)) = S1 at hS1 N1 hW h41 ⊢
  generalize wv fa fb (S 41) rt q = W at hW ⊢
  refine am_aload_n rfl rfl rfl ?_
  refine am_iload_n rfl rfl ?_
  refine am_iload rfl rfl ?_
  refine am_Vx [.int (nI x), .int (nI r)] rfl rfl rfl rfl rfl rfl (m_lastWay (d := d) x r (by omega) hr12 (fun t => W t x) (fun t ht => hW t ht x hx)) ?_
  refine am_istore rfl ?_
  have hl := lwy_le (fun t => W t x) r
  match s, hs with
  | 0, _ =>
    refine am_iload_n rfl rfl ?_
    refine am_if_ne rfl (fun h => absurd rfl h) (fun _ => ?_)
    refine am_aload_n rfl rfl rfl ?_
    refine am_iload_n rfl rfl ?_
    refine am_iload rfl rfl ?_
    refine am_Vx [.int (nI x), .int (nI r)] rfl rfl rfl rfl rfl rfl (m_wayOf (d := _) x r (by omega) (by omega)) ?_
    rw [hW r (by omega) x hx]
    refine am_ldc rfl ?_
    refine am_icmp_ge rfl (fun h => ?_) (fun h => ?_)
    · refine am_iconst rfl ?_
      refine am_ireturn rfl (fun h => absurd h (by decide)) ⟨?_, S1, hS1, rfl⟩
      simp only [hwy, decide_eq_true h, cond_true]
    · refine am_aload_n rfl rfl rfl ?_
      refine am_iload_n rfl rfl ?_
      refine am_iload rfl rfl ?_
      refine am_Vx [.int (nI x), .int (nI r)] rfl rfl rfl rfl rfl rfl (m_wayOf (d := _) x r (by omega) (by omega)) ?_
      refine am_goto rfl ?_
      refine am_ireturn rfl (fun h => absurd h (by decide)) ⟨?_, S1, hS1, rfl⟩
      simp only [hwy, decide_eq_false h, cond_false]
      rw [hW r (by omega) x hx]
  | 2, _ =>
    refine am_iload_n rfl rfl ?_
    refine am_if_ne rfl (fun _ => ?_) (fun h => absurd h (by decide))
    refine am_iload_n rfl rfl ?_
    refine am_iconst rfl ?_
    refine am_icmp_ne rfl (fun h => absurd rfl h) (fun _ => ?_)
    refine am_iload rfl rfl ?_
    exact am_ireturn rfl (fun h => absurd h (by decide)) ⟨rfl, S1, hS1, rfl⟩
  | 1, _ =>
    refine am_iload_n rfl rfl ?_
    refine am_if_ne rfl (fun _ => ?_) (fun h => absurd h (by decide))
    refine am_iload_n rfl rfl ?_
    refine am_iconst rfl ?_
    refine am_icmp_ne rfl (fun _ => ?_) (fun h => absurd h (by decide))
    refine am_iconst rfl ?_
    refine am_istore rfl ?_
    unfold hwy
    show AW g _ 0 0 131 37 [some (.ref 38), some (.int (nI x)), some (.int (nI 1)), some (.int (nI r)), some (.int (nI r)), some (.int (nI (lwy (fun t => W t x) r))), some (.int (nI 0)), none] [] _ _
    rcases el : lwy (fun t => W t x) r with _ | t
    · refine am_iload rfl rfl ?_
      refine am_aload_n rfl rfl rfl ?_
      refine am_get rfl rfl rfl ?_
      refine am_icmp_ge rfl (fun _ => ?_) (fun _ => ?_)
      · refine am_iconst rfl ?_
        refine am_ireturn rfl (fun h => absurd h (by decide)) ⟨?_, S1, hS1, rfl⟩
        simp only [el]
      · refine am_iload rfl rfl ?_
        refine am_if_le rfl (fun _ => ?_) (fun h => absurd (by decide) h)
        refine am_iconst rfl ?_
        refine am_ireturn rfl (fun h => absurd h (by decide)) ⟨?_, S1, hS1, rfl⟩
        simp only [el]
    simp only [el]
    have htr : t + 1 ≤ r := by omega
    refine am_forS (n) (fun v z => [some (.ref 38), some (.int (nI x)), some (.int (nI 1)), some (.int (nI r)), some (.int (nI r)), some (.int (nI (t + 1))), some (.int (nI v)), z]) (fun v z => mem ch S1) (fun v z => ∀ u, u < v → hwy1 (bt fa fb q) W (S 41) x t u = false) (fun v z hv hi k => ?_) (fun z hi => ?_) (n) 0 (none) (by omega) (fun u h => absurd h (Nat.not_lt_zero _))
    · refine am_iload rfl rfl ?_
      refine am_aload_n rfl rfl rfl ?_
      refine am_get rfl rfl rfl ?_
      refine am_icmp_ge rfl (fun h => absurd h (nm_lt N1.1 hn hv)) (fun _ => ?_)
      refine am_iload rfl rfl ?_
      refine am_if_le rfl (fun h => absurd h (nI_nle (by omega) (by omega))) (fun _ => ?_)
      refine am_aload_n rfl rfl rfl ?_
      refine am_iload rfl rfl ?_
      refine am_iload_n rfl rfl ?_
      refine am_Vx [.int (nI v), .int (nI x)] rfl rfl rfl rfl rfl rfl (m_between (d := _) N1 v x (by omega) (by omega)) ?_
      refine am_istore rfl ?_
      have hbl : ∀ e, bt fa fb q v x = some e → e < 24 := fun e he => by have := bt_lt he; have := N.2.2.2.1; omega
      rcases eb : bt fa fb q v x with _ | e
      · refine am_iload rfl rfl ?_
        refine am_if_lt rfl (fun _ => ?_) (fun h => absurd (by decide) h)
        refine am_iinc rfl rfl ?_
        refine am_goto rfl ?_
        have k := k (some (.int (-1))) (fun u hu => by
          by_cases e9 : u = v
          · subst e9; unfold hwy1; rw [eb]
          · exact hi u (by omega))
        simp only [nI_succ v] at k
        exact k
      · have he := hbl e eb
        have heq := bt_lt eb
        refine am_iload rfl rfl ?_
        refine am_if_lt rfl (fun h => absurd h (nI_pos (n := e) (by omega))) (fun _ => ?_)
        refine am_aload_n rfl rfl rfl ?_
        refine am_iload rfl rfl ?_
        refine am_iload rfl rfl ?_
        refine am_iconst rfl ?_
        refine am_isub rfl ?_
        rw [nI_pred]
        refine am_Vx [.int (nI v), .int (nI t)] rfl rfl rfl rfl rfl rfl (m_wayOf (d := _) v t (by omega) (by omega)) ?_
        refine am_aload_n rfl rfl rfl ?_
        refine am_get rfl rfl rfl ?_
        refine am_iload rfl rfl ?_
        refine am_iald (k8 := e) rfl rfl rfl (by omega) (by decide) ?_
        refine am_iadd rfl ?_
        refine am_aload_n rfl rfl rfl ?_
        refine am_iload_n rfl rfl ?_
        refine am_iload rfl rfl ?_
        refine am_Vx [.int (nI x), .int (nI (t + 1))] rfl rfl rfl rfl rfl rfl (m_wayOf (d := _) x (t + 1) (by omega) (by omega)) ?_
        rw [hW t (by omega) v hv, hW (t + 1) (by omega) x hx, h41]
        refine am_icmp_ne rfl (fun h65 => ?_) (fun h65 => ?_)
        · refine am_iinc rfl rfl ?_
          refine am_goto rfl ?_
          have k := k (some (.int (nI e))) (fun u hu => by
            by_cases e9 : u = v
            · subst e9; unfold hwy1; rw [eb]; exact decide_eq_false h65
            · exact hi u (by omega))
          simp only [nI_succ v] at k
          exact k
        · refine am_iload rfl rfl ?_
          refine am_ireturn rfl (fun h => absurd h (by decide)) ⟨?_, S1, hS1, rfl⟩
          rw [fst?_some (v := v) (by unfold hwy1; rw [eb]; exact decide_eq_true h65) hi hv]
          rfl
    · refine am_iload rfl rfl ?_
      refine am_aload_n rfl rfl rfl ?_
      refine am_get rfl rfl rfl ?_
      refine am_icmp_ge rfl (fun _ => ?_) (fun h => absurd (nm_ge N1.1 hn) h)
      refine am_iconst rfl ?_
      refine am_ireturn rfl (fun h => absurd h (by decide)) ⟨?_, S1, hS1, rfl⟩
      rw [fst?_none hi]
      rfl
  | s + 3, hs => exact absurd hs (by omega)
end MM8
