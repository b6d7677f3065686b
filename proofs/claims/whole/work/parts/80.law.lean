/-! THE LAW: class and model answer alike -/
theorem sm_le {f : Nat → Nat} {c : Nat} : ∀ n, (∀ v, v < n → f v ≤ c) → sm f n ≤ n * c
  | 0, _ => Nat.zero_le _
  | n + 1, h => by
    have a := sm_le n (fun v hv => h v (by omega))
    have b := h n (by omega)
    show sm f n + f n ≤ _
    rw [Nat.succ_mul]
    omega
theorem ltr_pos {S : am_S0} {n k : Nat} {E : Nat → Nat → Option Nat} (hk : k < 8) (hn : n ≤ 12) (h0 : 0 < n) (hS : S 2 4 = nI n) : 0 ≤ ltr k E n S := by
  have nn : n * n ≤ 144 := Nat.mul_le_mul hn hn
  have c1 : frl E n (S 27) ≤ n * n := sm_le n (fun v _ => by split; exact Nat.zero_le _; exact cnt_le _ n)
  have c2 : ∀ y, lam E n (S 24) y ≤ n * n := fun y => sm_le n (fun v _ => by split; exact cnt_le _ n; exact Nat.zero_le _)
  match k, hk with
  | 0, _ => exact nI_pos' (by omega)
  | 1, _ => exact nI_pos' (by omega)
  | 2, _ => exact nI_pos' (by have := cnt_le (fun v => due S v && !decide (S 28 v = -1)) n; show cnt _ n < _; omega)
  | 3, _ =>
    show 0 ≤ S 2 4 - 1
    rw [hS, show nI n - 1 = nI (n - 1) from pk_sub (b := 1) h0]
    exact nI_pos' (by omega)
  | 4, _ => exact nI_pos' (by have := c2 0; omega)
  | 5, _ => exact nI_pos' (by have := c2 (-1); omega)
  | 6, _ =>
    have : let6 S E n n ≤ n * n := sm_le n (fun v _ => by split; exact Nat.zero_le _; exact cnt_le _ n)
    exact nI_pos' (by omega)
  | 7, _ => exact nI_pos' (by omega)
  | k + 8, hk => exact absurd hk (by omega)
/-- both sides, between two calls -/
def LI (S : am_S0) (ch : Option Nat) : Prop := ∃ (n q : Nat) (fa fb : Nat → Nat), RelN S n q fa fb ∧ (match ch with
  | none => S 38 8 = -1
  | some k => ∃ rt r, RunR S n q fa fb k rt r ∧ S 38 10 = nI r ∧ S 1 7 = S 38 11)
theorem RelN.scr {S S1 : am_S0} {n q : Nat} {fa fb : Nat → Nat} (R : RelN S n q fa fb) (A : Scr S S1) : RelN S1 n q fa fb := by
  have o : ∀ j, j ≠ 48 → j ≠ 49 → j ≠ 50 → S1 j = S j := A
  exact R.eq (by rw [o 0 (by decide) (by decide) (by decide)]) (o 2 (by decide) (by decide) (by decide)) (o 3 (by decide) (by decide) (by decide)) (o 4 (by decide) (by decide) (by decide)) (fun j h1 h2 => o j (by omega) (by omega) (by omega)) (fun i _ => by rw [o 38 (by decide) (by decide) (by decide)]) (o 39 (by decide) (by decide) (by decide)) (o 40 (by decide) (by decide) (by decide)) (o 41 (by decide) (by decide) (by decide)) (o 42 (by decide) (by decide) (by decide))
theorem RunR.scr {S S1 : am_S0} {n q : Nat} {fa fb : Nat → Nat} {k rt r : Nat} (U : RunR S n q fa fb k rt r) (A : Scr S S1) : RunR S1 n q fa fb k rt r := by
  have o : ∀ j, j ≠ 48 → j ≠ 49 → j ≠ 50 → S1 j = S j := A
  refine U.eq A.sta (o 44 (by decide) (by decide) (by decide)) (fun i _ => by rw [o 38 (by decide) (by decide) (by decide)]) ?_ (fun j h1 h2 => o j (by omega) (by omega) (by omega))
  rw [o 1 (by decide) (by decide) (by decide)]
  exact ⟨rfl, rfl⟩
theorem LI.scr {S S1 : am_S0} {ch : Option Nat} (h : LI S ch) (A : Scr S S1) : LI S1 ch := by
  obtain ⟨n, q, fa, fb, R, h2⟩ := h
  refine ⟨n, q, fa, fb, R.scr A, ?_⟩
  have e38 := A 38 (by decide) (by decide) (by decide)
  cases ch with
  | none => show S1 38 8 = -1; rw [e38]; exact h2
  | some k =>
    obtain ⟨rt, r, U, h10, h11⟩ := h2
    exact ⟨rt, r, U.scr A, by rw [e38]; exact h10, by rw [e38, A 1 (by decide) (by decide) (by decide)]; exact h11⟩
theorem RelN.dn {S : am_S0} {n q : Nat} {fa fb : Nat → Nat} {r : Nat} {t : Int32} (R : RelN S n q fa fb) : RelN (mdn S r t) n q fa fb := R.eq rfl rfl rfl rfl (fun j _ _ => am_up_ne _ _ (by omega)) (fun i hi => by rcases hi with h | h | h <;> subst h <;> rfl) rfl rfl rfl rfl
theorem RunR.dn {S : am_S0} {n q : Nat} {fa fb : Nat → Nat} {k rt r r2 : Nat} {t : Int32} (U : RunR S n q fa fb k rt r) : RunR (mdn S r2 t) n q fa fb k rt r := U.eq Sta.dn rfl (fun i hi => by rcases hi with h | h <;> subst h <;> rfl) ⟨rfl, rfl⟩ (fun j _ _ => am_up_ne _ _ (by omega))
/-- j rounds of the class -/
def plj (S : am_S0) (n q : Nat) (fa fb : Nat → Nat) (k rt j : Nat) : am_S0 := itr (fun _ => ply k (bt fa fb q) n (ptA n q fa fb rt)) j S
theorem plj_sta {S : am_S0} {n q : Nat} {fa fb : Nat → Nat} {k rt : Nat} : ∀ j, Sta S (plj S n q fa fb k rt j) ∧ plj S n q fa fb k rt j 38 = S 38 ∧ plj S n q fa fb k rt j 44 = S 44
  | 0 => ⟨⟨rfl, rfl, rfl, rfl, rfl, rfl⟩, rfl, rfl⟩
  | j + 1 => by
    obtain ⟨⟨a1, a2, a3, a4, a5, a6⟩, b, c⟩ := plj_sta (S := S) (n := n) (q := q) (fa := fa) (fb := fb) (k := k) (rt := rt) j
    show Sta S (ply k (bt fa fb q) n (ptA n q fa fb rt) (plj S n q fa fb k rt j)) ∧ ply k (bt fa fb q) n (ptA n q fa fb rt) (plj S n q fa fb k rt j) 38 = S 38 ∧ ply k (bt fa fb q) n (ptA n q fa fb rt) (plj S n q fa fb k rt j) 44 = S 44
    generalize plj S n q fa fb k rt j = S1 at a1 a2 a3 a4 a5 a6 b c
    exact ⟨⟨(ply_o (by decide)).trans a1, (ply_o (by decide)).trans a2, (ply_o (by decide)).trans a3, (ply_o (by decide)).trans a4, (ply_o (by decide)).trans a5, (ply_o (by decide)).trans a6⟩, (ply_o (by decide)).trans b, (ply_o (by decide)).trans c⟩
theorem plj_rel {S : am_S0} {n q : Nat} {fa fb : Nat → Nat} {k rt r : Nat} (R : RelN S n q fa fb) (U : RunR S n q fa fb k rt r) (h11 : S 1 7 = S 38 11) : ∀ j, (∀ i, i < j → ovr k (bt fa fb q) n rt (plj S n q fa fb k rt i) = false) → RelN (plj S n q fa fb k rt j) n q fa fb ∧ RunR (plj S n q fa fb k rt j) n q fa fb k rt (r + j) ∧ plj S n q fa fb k rt j 1 7 = mtot S n q fa fb rt k r j
  | 0, _ => ⟨R, U, h11⟩
  | j + 1, h => by
    obtain ⟨R1, U1, h1⟩ := plj_rel R U h11 j (fun i hi => h i (by omega))
    have st := (plj_sta (S := S) (n := n) (q := q) (fa := fa) (fb := fb) (k := k) (rt := rt) j).1
    have hf : fns (plj S n q fa fb k rt j) n q fa fb rt k (r + j) = false := by rw [← over_eq R1 U1]; exact h j (by omega)
    obtain ⟨R2, U2, h2⟩ := ply_rel R1 U1 hf
    refine ⟨R2, U2, ?_⟩
    show ply k (bt fa fb q) n (ptA n q fa fb rt) (plj S n q fa fb k rt j) 1 7 = mtot S n q fa fb rt k r j + ltI S n q fa fb rt k (r + j)
    rw [h2, h1, ltI_sta st]
theorem mtot_sta {S S1 : am_S0} {n q : Nat} {fa fb : Nat → Nat} {k rt r : Nat} (A : Sta S S1) (e : S1 38 11 = S 38 11) : ∀ j, mtot S1 n q fa fb rt k r j = mtot S n q fa fb rt k r j
  | 0 => e
  | j + 1 => by
    show mtot S1 n q fa fb rt k r j + ltI S1 n q fa fb rt k (r + j) = _
    rw [mtot_sta A e j, ltI_sta A]
    rfl
theorem tk_eq {S S1 : am_S0} {n q : Nat} {fa fb : Nat → Nat} (R : RelN S n q fa fb) (e : S1 38 0 = S 38 0) (k : Nat) (y : Int32) : mtb k S1 y = tkb k S y := by
  unfold mtb tkb
  rw [e, R.2.2.1.1, R.2.2.2.1.1]
  rfl
section LAW
variable {g : am_G} {S : am_S0} {ch : Option Nat} {i : Nat} {K : am_K}
def LL (i : Nat) : am_L := [some (.retAddr 0), some (.ref 0), some (.ref 38), some (.int (nI i))]
/-- the end of a case -/
theorem law_next (k : AW g 9 0 0 0 10 (LL (i + 4)) [] (mem ch S) K) : AW g 9 0 0 0 209 (LL i) [] (mem ch S) K := by
  refine am_iinc rfl rfl ?_
  refine am_goto rfl ?_
  unfold LL at k
  rw [← nI_add] at k
  exact k
abbrev Nxt (g : am_G) (i : Nat) (K : am_K) : Prop := ∀ (ch : Option Nat) (S : am_S0), LI S ch → AW g 9 0 0 0 10 (LL (i + 4)) [] (mem ch S) K
theorem law_net (hL : am_sl g ≤ 2048) (hi : i + 4 ≤ am_sl g) (h : LI S ch) (hN : Nxt g i K) : AW g 9 0 0 0 22 (LL i) [] (mem ch S) K := by
  obtain ⟨n, q, fa, fb, R, h2⟩ := id h
  have hn := R.1.1
  refine am_aload_n rfl rfl rfl ?_
  refine am_aload_n rfl rfl rfl ?_
  refine am_iload_n rfl rfl ?_
  refine am_iconst rfl ?_
  refine am_iadd rfl ?_
  refine am_sald (k8 := i + 1) rfl (nI_1 i) (by omega) (by omega) ?_
  generalize hx9 : am_sx g (i + 1) = x
  by_cases c : (decide (1 ≤ x) && decide (x ≤ 12)) = true
  · have cc := c
    rw [Bool.and_eq_true, decide_eq_true_eq, decide_eq_true_eq] at cc
    obtain ⟨m, hm, rfl⟩ := nI_of (x := x) (Int32.not_lt.mpr (i32_le.mpr (by have := i32_le.mp cc.1; have h1 : (1 : Int32).toInt = 1 := (by decide); have h0 : (0 : Int32).toInt = 0 := (by decide); omega)))
    have m1 : 1 ≤ m := (nI_leI (a := 1) (by decide) hm).mp cc.1
    have m2 : m ≤ 12 := (nI_leI (b := 12) hm (by decide)).mp cc.2
    refine am_Vx [.int (nI m)] rfl rfl rfl rfl rfl rfl (s_net (d := 6) (nI m)) ?_
    rw [c]
    refine am_aload_n rfl rfl rfl ?_
    refine am_aload_n rfl rfl rfl ?_
    refine am_iload_n rfl rfl ?_
    refine am_iconst rfl ?_
    refine am_iadd rfl ?_
    refine am_sald (k8 := i + 1) rfl (nI_1 i) (by omega) (by omega) ?_
    rw [show am_sx g (i + 1) = nI m from hx9]
    refine am_Vx [.int (nI m)] rfl rfl rfl rfl rfl rfl (m_net (d := 7) m1 m2) ?_
    refine am_icmp_eq rfl (fun _ => ?_) (fun h => absurd rfl h)
    obtain ⟨r1, r2⟩ := net_rel (S := S) (fa := fa) (fb := fb) m1 m2
    exact law_next (hN _ _ ⟨m, 0, fa, fb, r1, r2⟩)
  · refine am_Vx [.int x] rfl rfl rfl rfl rfl rfl (s_net (d := 6) x) ?_
    rw [Bool.eq_false_iff.mpr c]
    refine am_aload_n rfl rfl rfl ?_
    refine am_aload_n rfl rfl rfl ?_
    refine am_iload_n rfl rfl ?_
    refine am_iconst rfl ?_
    refine am_iadd rfl ?_
    refine am_sald (k8 := i + 1) rfl (nI_1 i) (by omega) (by omega) ?_
    rw [show am_sx g (i + 1) = x from hx9]
    refine am_Vx [.int x] rfl rfl rfl rfl rfl rfl (m_netNo (d := 8) x ?_) ?_
    · by_cases c2 : x < 1
      · exact Or.inl c2
      · refine Or.inr (fun c3 => c ?_)
        rw [Bool.and_eq_true, decide_eq_true_eq, decide_eq_true_eq]
        exact ⟨Int32.not_lt.mp c2, c3⟩
    refine am_icmp_eq rfl (fun _ => ?_) (fun h => absurd rfl h)
    exact law_next (hN _ _ h)
theorem law_edge (hL : am_sl g ≤ 2048) (hi : i + 4 ≤ am_sl g) (h : LI S ch) (hN : Nxt g i K) : AW g 9 0 0 0 39 (LL i) [] (mem ch S) K := by
  obtain ⟨n, q, fa, fb, R, h2⟩ := id h
  have hn := R.1.1
  refine am_aload_n rfl rfl rfl ?_
  refine am_aload_n rfl rfl rfl ?_
  refine am_iload_n rfl rfl ?_
  refine am_iconst rfl ?_
  refine am_iadd rfl ?_
  refine am_sald (k8 := i + 1) rfl (nI_1 i) (by omega) (by omega) ?_
  refine am_aload_n rfl rfl rfl ?_
  refine am_iload_n rfl rfl ?_
  refine am_iconst rfl ?_
  refine am_iadd rfl ?_
  refine am_sald (k8 := i + 2) rfl (nI_add i 2) (by omega) (by omega) ?_
  refine am_aload_n rfl rfl rfl ?_
  refine am_iload_n rfl rfl ?_
  refine am_iconst rfl ?_
  refine am_iadd rfl ?_
  refine am_sald (k8 := i + 3) rfl (nI_add i 3) (by omega) (by omega) ?_
  generalize hx1 : am_sx g (i + 1) = x
  generalize hx2 : am_sx g (i + 2) = y
  generalize hx3 : am_sx g (i + 3) = w
  have hte := tks_eq R x y w
  by_cases c : tks S (bt fa fb q) x y w = true
  · have cm := c
    rw [hte] at cm
    have cc := cm
    unfold mtk at cc
    simp only [Bool.and_eq_true, Bool.not_eq_true', decide_eq_false_iff_not, decide_eq_true_eq] at cc
    obtain ⟨⟨⟨⟨⟨⟨t0, t1⟩, t2⟩, t3⟩, t4⟩, t5⟩, t6⟩ := cc
    obtain ⟨a, ha, rfl⟩ := isN_of R.2.2.2.1.1 hn (by rw [decide_eq_true t1.1, decide_eq_true t1.2]; rfl)
    obtain ⟨b, hb, rfl⟩ := isN_of R.2.2.2.1.1 hn (by rw [decide_eq_true t2.1, decide_eq_true t2.2]; rfl)
    rw [nI_clamp (by omega), nI_clamp (by omega)] at t4
    have hab : a ≠ b := fun e => t3 (by rw [e])
    have hq : q < 24 := by
      have := R.1.2.1
      have : q ≠ 24 := fun e => t0 (by rw [R.2.2.2.1.2.2.1, e]; rfl)
      omega
    refine am_Vx [.int (nI a), .int (nI b), .int w] rfl rfl rfl rfl rfl rfl (s_edgeYes (d := 6) R.2.2.1 a b q w (by omega) (by omega) hab hq R.2.2.2.2.1 c) ?_
    have e38 : addE (fgt S) a b q w 38 = S 38 := (addE_o (by omega) (by omega) (by decide) (by decide) (by decide)).trans (am_up_ne _ _ (by decide))
    have e39 : addE (fgt S) a b q w 39 = S 39 := (addE_o (by omega) (by omega) (by decide) (by decide) (by decide)).trans (am_up_ne _ _ (by decide))
    have e40 : addE (fgt S) a b q w 40 = S 40 := (addE_o (by omega) (by omega) (by decide) (by decide) (by decide)).trans (am_up_ne _ _ (by decide))
    have N1 : MN (addE (fgt S) a b q w) n q fa fb := R.2.2.2.1.eq (by rw [e38]) (by rw [e38]) e39 e40
    have ht1 : mtk (addE (fgt S) a b q w) fa fb q (nI a) (nI b) w = true := by
      unfold mtk at cm ⊢
      rw [e38]
      exact cm
    refine am_aload_n rfl rfl rfl ?_
    refine am_aload_n rfl rfl rfl ?_
    refine am_iload_n rfl rfl ?_
    refine am_iconst rfl ?_
    refine am_iadd rfl ?_
    refine am_sald (k8 := i + 1) rfl (nI_1 i) (by omega) (by omega) ?_
    refine am_aload_n rfl rfl rfl ?_
    refine am_iload_n rfl rfl ?_
    refine am_iconst rfl ?_
    refine am_iadd rfl ?_
    refine am_sald (k8 := i + 2) rfl (nI_add i 2) (by omega) (by omega) ?_
    refine am_aload_n rfl rfl rfl ?_
    refine am_iload_n rfl rfl ?_
    refine am_iconst rfl ?_
    refine am_iadd rfl ?_
    refine am_sald (k8 := i + 3) rfl (nI_add i 3) (by omega) (by omega) ?_
    rw [hx1, hx2, hx3]
    refine am_Vx [.int (nI a), .int (nI b), .int w] rfl rfl rfl rfl rfl rfl (m_edgeYes (d := 6) N1 a b w ha hb hq ht1) ?_
    refine am_icmp_eq rfl (fun _ => ?_) (fun h => absurd rfl h)
    obtain ⟨fa2, fb2, r1, r2⟩ := edge_rel R ha hb hab hq t4 t5 t6
    exact law_next (hN _ _ ⟨n, q + 1, fa2, fb2, r1, r2⟩)
  · have c0 := Bool.eq_false_iff.mpr c
    refine am_Vx [.int x, .int y, .int w] rfl rfl rfl rfl rfl rfl (s_edgeNo (d := 6) R.2.2.1 x y w c0) ?_
    refine am_aload_n rfl rfl rfl ?_
    refine am_aload_n rfl rfl rfl ?_
    refine am_iload_n rfl rfl ?_
    refine am_iconst rfl ?_
    refine am_iadd rfl ?_
    refine am_sald (k8 := i + 1) rfl (nI_1 i) (by omega) (by omega) ?_
    refine am_aload_n rfl rfl rfl ?_
    refine am_iload_n rfl rfl ?_
    refine am_iconst rfl ?_
    refine am_iadd rfl ?_
    refine am_sald (k8 := i + 2) rfl (nI_add i 2) (by omega) (by omega) ?_
    refine am_aload_n rfl rfl rfl ?_
    refine am_iload_n rfl rfl ?_
    refine am_iconst rfl ?_
    refine am_iadd rfl ?_
    refine am_sald (k8 := i + 3) rfl (nI_add i 3) (by omega) (by omega) ?_
    rw [hx1, hx2, hx3]
    refine am_Vx [.int x, .int y, .int w] rfl rfl rfl rfl rfl rfl (m_edgeNo (d := 6) R.2.2.2.1 x y w (by rw [← hte]; exact c0)) ?_
    refine am_icmp_eq rfl (fun _ => ?_) (fun h => absurd rfl h)
    exact law_next (hN _ _ h)
theorem law_identity (hL : am_sl g ≤ 2048) (hi : i + 4 ≤ am_sl g) (h : LI S ch) (hN : Nxt g i K) : AW g 9 0 0 0 76 (LL i) [] (mem ch S) K := by
  obtain ⟨n, q, fa, fb, R, h2⟩ := id h
  have hn := R.1.1
  refine am_aload_n rfl rfl rfl ?_
  refine am_aload_n rfl rfl rfl ?_
  refine am_iload_n rfl rfl ?_
  refine am_iconst rfl ?_
  refine am_iadd rfl ?_
  refine am_sald (k8 := i + 1) rfl (nI_1 i) (by omega) (by omega) ?_
  refine am_aload_n rfl rfl rfl ?_
  refine am_iload_n rfl rfl ?_
  refine am_iconst rfl ?_
  refine am_iadd rfl ?_
  refine am_sald (k8 := i + 2) rfl (nI_add i 2) (by omega) (by omega) ?_
  generalize hx1 : am_sx g (i + 1) = x
  generalize hx2 : am_sx g (i + 2) = y
  by_cases c : idn S x y = true
  · have cc := c
    unfold idn at cc
    rw [Bool.and_eq_true, Bool.and_eq_true] at cc
    obtain ⟨v, hv, rfl⟩ := hasN_of R.2.2.1.1 hn cc.1.1
    refine am_Vx [.int (nI v), .int y] rfl rfl rfl rfl rfl rfl (s_identity (d := 6) R.2.2.1.1 hn (nI v) y) ?_
    rw [c, nI_clamp (by omega)]
    have em := idn_eq R (S1 := fgt (am_up S 3 (upd (S 3) v y))) rfl (nI v) y
    refine am_aload_n rfl rfl rfl ?_
    refine am_aload_n rfl rfl rfl ?_
    refine am_iload_n rfl rfl ?_
    refine am_iconst rfl ?_
    refine am_iadd rfl ?_
    refine am_sald (k8 := i + 1) rfl (nI_1 i) (by omega) (by omega) ?_
    refine am_aload_n rfl rfl rfl ?_
    refine am_iload_n rfl rfl ?_
    refine am_iconst rfl ?_
    refine am_iadd rfl ?_
    refine am_sald (k8 := i + 2) rfl (nI_add i 2) (by omega) (by omega) ?_
    rw [hx1, hx2]
    refine am_Vx [.int (nI v), .int y] rfl rfl rfl rfl rfl rfl (m_identity (d := 7) (S := fgt (am_up S 3 (upd (S 3) v y))) (n := n) R.2.2.2.1.1 hn (nI v) y) ?_
    rw [em, c, nI_clamp (by omega)]
    refine am_icmp_eq rfl (fun _ => ?_) (fun h => absurd rfl h)
    obtain ⟨r1, r2⟩ := id_rel R hv (of_decide_eq_true cc.1.2) (of_decide_eq_true cc.2)
    exact law_next (hN _ _ ⟨n, q, fa, fb, r1, r2⟩)
  · have c0 := Bool.eq_false_iff.mpr c
    refine am_Vx [.int x, .int y] rfl rfl rfl rfl rfl rfl (s_identity (d := 6) R.2.2.1.1 hn x y) ?_
    rw [c0]
    have em := idn_eq R (S1 := S) rfl x y
    refine am_aload_n rfl rfl rfl ?_
    refine am_aload_n rfl rfl rfl ?_
    refine am_iload_n rfl rfl ?_
    refine am_iconst rfl ?_
    refine am_iadd rfl ?_
    refine am_sald (k8 := i + 1) rfl (nI_1 i) (by omega) (by omega) ?_
    refine am_aload_n rfl rfl rfl ?_
    refine am_iload_n rfl rfl ?_
    refine am_iconst rfl ?_
    refine am_iadd rfl ?_
    refine am_sald (k8 := i + 2) rfl (nI_add i 2) (by omega) (by omega) ?_
    rw [hx1, hx2]
    refine am_Vx [.int x, .int y] rfl rfl rfl rfl rfl rfl (m_identity (d := 7) (n := n) R.2.2.2.1.1 hn x y) ?_
    rw [em, c0]
    refine am_icmp_eq rfl (fun _ => ?_) (fun h => absurd rfl h)
    exact law_next (hN _ _ h)
theorem law_ready (hL : am_sl g ≤ 2048) (hi : i + 4 ≤ am_sl g) (h : LI S ch) (hN : Nxt g i K) : AW g 9 0 0 0 103 (LL i) [] (mem ch S) K := by
  obtain ⟨n, q, fa, fb, R, h2⟩ := id h
  have hn := R.1.1
  refine am_aload_n rfl rfl rfl ?_
  refine am_Vx [] rfl rfl rfl rfl rfl rfl (s_ready (d := 4) R.2.2.1) ?_
  obtain ⟨r1, r2⟩ := ready_rel R
  have N1 : MN (rdC S (bt fa fb q) n) n q fa fb := R.2.2.2.1.eq (by rw [rdC_o (by decide)]) (by rw [rdC_o (by decide)]) (rdC_o (by decide)) (rdC_o (by decide))
  refine am_Meq (M' := mem ch (rdC S (bt fa fb q) n)) rfl ?_
  refine am_aload_n rfl rfl rfl ?_
  refine am_Vx [] rfl rfl rfl rfl rfl rfl (m_ready (d := 5) N1) ?_
  rw [r1]
  refine am_icmp_eq rfl (fun _ => ?_) (fun h => absurd rfl h)
  refine am_Meq (M' := mem ch (rdM (rdC S (bt fa fb q) n) (bt fa fb q) n)) (by unfold rdM; rw [r1]) ?_
  refine law_next (hN _ _ ⟨n, q, fa, fb, r2, ?_⟩)
  have e38 : ∀ j, j ≠ 6 → rdM (rdC S (bt fa fb q) n) (bt fa fb q) n 38 j = S 38 j := fun j hj => by rw [rdM_38 hj, rdC_o (by decide)]
  cases ch with
  | none => show rdM (rdC S (bt fa fb q) n) (bt fa fb q) n 38 8 = -1; rw [e38 8 (by decide)]; exact h2
  | some k =>
    obtain ⟨rt, r, U, h10, h11⟩ := h2
    exact ⟨rt, r, ready_run R U, by rw [e38 10 (by decide)]; exact h10, by rw [e38 11 (by decide), rdM_o (by decide), rdC_o (by decide)]; exact h11⟩
theorem law_choose (hL : am_sl g ≤ 2048) (hi : i + 4 ≤ am_sl g) (h : LI S ch) (hN : Nxt g i K) : AW g 9 0 0 0 110 (LL i) [] (mem ch S) K := by
  obtain ⟨n, q, fa, fb, R, h2⟩ := id h
  have hn := R.1.1
  refine am_aload_n rfl rfl rfl ?_
  refine am_aload_n rfl rfl rfl ?_
  refine am_iload_n rfl rfl ?_
  refine am_iconst rfl ?_
  refine am_iadd rfl ?_
  refine am_sald (k8 := i + 1) rfl (nI_1 i) (by omega) (by omega) ?_
  refine am_aload_n rfl rfl rfl ?_
  refine am_iload_n rfl rfl ?_
  refine am_iconst rfl ?_
  refine am_iadd rfl ?_
  refine am_sald (k8 := i + 2) rfl (nI_add i 2) (by omega) (by omega) ?_
  generalize hx1 : am_sx g (i + 1) = x
  generalize hx2 : am_sx g (i + 2) = y
  have h36 := R.2.2.2.2.2.2.1
  by_cases c : S 0 3 = 0 ∨ x < 0 ∨ ¬ x < 8
  · refine am_Vx [.int x, .int y] rfl rfl rfl rfl rfl rfl (s_chooseNo (d := 7) x y c) ?_
    refine am_aload_n rfl rfl rfl ?_
    refine am_aload_n rfl rfl rfl ?_
    refine am_iload_n rfl rfl ?_
    refine am_iconst rfl ?_
    refine am_iadd rfl ?_
    refine am_sald (k8 := i + 1) rfl (nI_1 i) (by omega) (by omega) ?_
    refine am_aload_n rfl rfl rfl ?_
    refine am_iload_n rfl rfl ?_
    refine am_iconst rfl ?_
    refine am_iadd rfl ?_
    refine am_sald (k8 := i + 2) rfl (nI_add i 2) (by omega) (by omega) ?_
    rw [hx1, hx2]
    refine am_Vx [.int x, .int y] rfl rfl rfl rfl rfl rfl (m_chooseNo (d := 8) x y (by rw [← h36]; exact c)) ?_
    refine am_icmp_eq rfl (fun _ => ?_) (fun h => absurd rfl h)
    exact law_next (hN _ _ h)
  · have hrdy : ¬ S 0 3 = 0 := fun e => c (Or.inl e)
    have hx0 : ¬ x < 0 := fun e => c (Or.inr (Or.inl e))
    have hx8 : x < 8 := Decidable.byContradiction (fun e => c (Or.inr (Or.inr e)))
    obtain ⟨k, hk0, rfl⟩ := nI_of hx0
    have hk : k < 8 := (nI_ltI (b := 8) hk0 (by decide)).mp hx8
    cases ct : tkb k S y with
    | false =>
      refine am_Vx [.int (nI k), .int y] rfl rfl rfl rfl rfl rfl (s_chooseNo2 (d := 5) hk y hrdy ct) ?_
      refine am_aload_n rfl rfl rfl ?_
      refine am_aload_n rfl rfl rfl ?_
      refine am_iload_n rfl rfl ?_
      refine am_iconst rfl ?_
      refine am_iadd rfl ?_
      refine am_sald (k8 := i + 1) rfl (nI_1 i) (by omega) (by omega) ?_
      refine am_aload_n rfl rfl rfl ?_
      refine am_iload_n rfl rfl ?_
      refine am_iconst rfl ?_
      refine am_iadd rfl ?_
      refine am_sald (k8 := i + 2) rfl (nI_add i 2) (by omega) (by omega) ?_
      rw [hx1, hx2]
      refine am_Vx [.int (nI k), .int y] rfl rfl rfl rfl rfl rfl (m_chooseNo2 (d := 7) hk y (by rw [← h36]; exact hrdy) (by rw [tk_eq R rfl]; exact ct)) ?_
      refine am_icmp_eq rfl (fun _ => ?_) (fun h => absurd rfl h)
      exact law_next (hN _ _ h)
    | true =>
      have hrt : ∃ rt, rooted k → rt < n ∧ y = nI rt := by
        by_cases cr : rooted k
        · have ct2 : (decide (0 ≤ y) && decide (y < S 2 4)) = true := by
            rcases cr with e | e | e | e <;> subst e <;> exact ct
          obtain ⟨v, hv, e⟩ := hasN_of R.2.2.1.1 hn ct2
          exact ⟨v, fun _ => ⟨hv, e⟩⟩
        · exact ⟨0, fun e => absurd e cr⟩
      obtain ⟨rt, hr⟩ := hrt
      obtain ⟨hC, hD⟩ := R.2.2.2.2.2.2.2 hrdy
      refine am_Vx [.int (nI k), .int y] rfl rfl rfl rfl rfl rfl (s_chooseYes (d := 3) (rt := rt) hk R.2.2.1 y hrdy ct hr) ?_
      have R1 : RelN (chs k (bt fa fb q) n rt y S) n q fa fb := R.eq (by rw [chs_o hk (by decide)]) (chs_o hk (by decide)) (chs_o hk (by decide)) (chs_o hk (by decide)) (fun j h1 h2 => chs_o hk (by omega)) (fun i _ => by rw [chs_o hk (by decide)]) (chs_o hk (by decide)) (chs_o hk (by decide)) (chs_o hk (by decide)) (chs_o hk (by decide))
      have e42 : chs k (bt fa fb q) n rt y S 42 = S 42 := chs_o hk (by decide)
      have e38 : chs k (bt fa fb q) n rt y S 38 = S 38 := chs_o hk (by decide)
      have pre := cho_pre (k := k) (rt := rt) R1 hC (by rw [e42]; exact hD) (fun e => (hr e).1) (chs k (bt fa fb q) n rt y S 43) (chs k (bt fa fb q) n rt y S 46) (chs k (bt fa fb q) n rt y S 47)
      refine am_aload_n rfl rfl rfl ?_
      refine am_aload_n rfl rfl rfl ?_
      refine am_iload_n rfl rfl ?_
      refine am_iconst rfl ?_
      refine am_iadd rfl ?_
      refine am_sald (k8 := i + 1) rfl (nI_1 i) (by omega) (by omega) ?_
      refine am_aload_n rfl rfl rfl ?_
      refine am_iload_n rfl rfl ?_
      refine am_iconst rfl ?_
      refine am_iadd rfl ?_
      refine am_sald (k8 := i + 2) rfl (nI_add i 2) (by omega) (by omega) ?_
      rw [hx1, hx2]
      refine am_Vx [.int (nI k), .int y] rfl rfl rfl rfl rfl rfl (m_chooseYes (d := 4) (rt := rt) (rk := fun v => dst (bt fa fb q) n rt v) hk R1.2.2.2.1 y (by rw [e38, ← h36]; exact hrdy) (by rw [tk_eq R (by rw [e38])]; exact ct) hr pre.1 pre.2.1 pre.2.2) ?_
      refine am_icmp_eq rfl (fun _ => ?_) (fun h => absurd rfl h)
      obtain ⟨r1, r2, r3, r4⟩ := cho_rel (y := y) R hC hD hk hr
      exact law_next (hN _ _ ⟨n, q, fa, fb, r1, rt, 0, r2, r3, r4⟩)
theorem law_round (hL : am_sl g ≤ 2048) (hi : i + 4 ≤ am_sl g) (h : LI S ch) (hN : Nxt g i K) : AW g 9 0 0 0 137 (LL i) [] (mem ch S) K := by
  obtain ⟨n, q, fa, fb, R, h2⟩ := id h
  have hn := R.1.1
  refine am_aload_n rfl rfl rfl ?_
  cases ch with
  | none =>
    refine am_Vx [] rfl rfl rfl rfl rfl rfl (s_round0 (d := 8)) ?_
    refine am_aload_n rfl rfl rfl ?_
    refine am_Vx [] rfl rfl rfl rfl rfl rfl (m_round0 (d := 8) h2) ?_
    refine am_icmp_eq rfl (fun _ => ?_) (fun h => absurd rfl h)
    exact law_next (hN _ _ h)
  | some k =>
    obtain ⟨rt, r, U, h10, h11⟩ := h2
    have ho := over_eq R U
    cases cf : fns S n q fa fb rt k r with
    | true =>
      rw [cf] at ho
      refine am_Vx [] rfl rfl rfl rfl rfl rfl (s_roundOver (d := 2) U.1 R.2.2.1 (U.ri R) ho) ?_
      refine am_aload_n rfl rfl rfl ?_
      refine am_V [] rfl rfl rfl rfl rfl rfl (m_roundEnd (d := 2) R.2.2.2.1 (U.mr R rfl rfl h10 rfl rfl) cf) ?_
      rintro _ _ ⟨rfl, S1, hS1, rfl⟩ _
      refine am_icmp_eq rfl (fun _ => ?_) (fun h => absurd rfl h)
      exact law_next (hN _ _ (h.scr hS1))
    | false =>
      rw [cf] at ho
      refine am_Vx [] rfl rfl rfl rfl rfl rfl (s_roundPlay (d := 2) U.1 R.2.2.1 R.nb.2 (U.ri R) ho) ?_
      obtain ⟨R1, U1, hl⟩ := ply_rel R U cf
      have st : Sta S (ply k (bt fa fb q) n (ptA n q fa fb rt) S) := ply_sta
      have e38 : ply k (bt fa fb q) n (ptA n q fa fb rt) S 38 = S 38 := ply_o (by decide)
      have M1 : MR (ply k (bt fa fb q) n (ptA n q fa fb rt) S) n q fa fb k rt r (ptA n q fa fb rt) (fun v => dst (bt fa fb q) n rt v) := U.mr R (by rw [e38]) (by rw [e38]) (by rw [e38]; exact h10) (ply_o (by decide)) (ply_o (by decide))
      refine am_aload_n rfl rfl rfl ?_
      refine am_V [] rfl rfl rfl rfl rfl rfl (m_roundGo (d := 2) R1.2.2.2.1 M1 (by rw [fns_sta st]; exact cf)) ?_
      rintro _ _ ⟨rfl, S1, hS1, rfl⟩ _
      rw [ltI_sta st, let_eq R U]
      refine am_icmp_eq rfl (fun _ => ?_) (fun h => absurd rfl h)
      refine law_next (hN _ _ (LI.scr ⟨n, q, fa, fb, R1.dn, rt, r + 1, U1.dn, rfl, ?_⟩ hS1))
      show ply k (bt fa fb q) n (ptA n q fa fb rt) S 1 7 = ply k (bt fa fb q) n (ptA n q fa fb rt) S 38 11 + ltI (ply k (bt fa fb q) n (ptA n q fa fb rt) S) n q fa fb rt k r
      rw [hl, ltI_sta st, e38, h11]
theorem law_run (hL : am_sl g ≤ 2048) (hi : i + 4 ≤ am_sl g) (h : LI S ch) (hN : Nxt g i K) : AW g 9 0 0 0 144 (LL i) [] (mem ch S) K := by
  obtain ⟨n, q, fa, fb, R, h2⟩ := id h
  have hn := R.1.1
  refine am_aload_n rfl rfl rfl ?_
  refine am_aload_n rfl rfl rfl ?_
  refine am_iload_n rfl rfl ?_
  refine am_iconst rfl ?_
  refine am_iadd rfl ?_
  refine am_sald (k8 := i + 1) rfl (nI_1 i) (by omega) (by omega) ?_
  generalize hx1 : am_sx g (i + 1) = x
  cases ch with
  | none =>
    refine am_Vx [.int x] rfl rfl rfl rfl rfl rfl (s_run0 (d := 8) x) ?_
    refine am_aload_n rfl rfl rfl ?_
    refine am_aload_n rfl rfl rfl ?_
    refine am_iload_n rfl rfl ?_
    refine am_iconst rfl ?_
    refine am_iadd rfl ?_
    refine am_sald (k8 := i + 1) rfl (nI_1 i) (by omega) (by omega) ?_
    rw [hx1]
    refine am_Vx [.int x] rfl rfl rfl rfl rfl rfl (m_run0 (d := 8) h2 x) ?_
    refine am_icmp_eq rfl (fun _ => ?_) (fun h => absurd rfl h)
    exact law_next (hN _ _ h)
  | some k =>
    obtain ⟨rt, r, U, h10, h11⟩ := h2
    by_cases cx : x < 0
    · refine am_Vx [.int x] rfl rfl rfl rfl rfl rfl (s_runNeg (d := 8) x cx) ?_
      refine am_aload_n rfl rfl rfl ?_
      refine am_aload_n rfl rfl rfl ?_
      refine am_iload_n rfl rfl ?_
      refine am_iconst rfl ?_
      refine am_iadd rfl ?_
      refine am_sald (k8 := i + 1) rfl (nI_1 i) (by omega) (by omega) ?_
      rw [hx1]
      refine am_Vx [.int x] rfl rfl rfl rfl rfl rfl (m_runNeg (d := 8) U.2.2.1 U.1 x cx) ?_
      refine am_icmp_eq rfl (fun _ => ?_) (fun h => absurd rfl h)
      exact law_next (hN _ _ h)
    · obtain ⟨lim, hl, rfl⟩ := nI_of cx
      refine am_V [.int (nI lim)] rfl rfl rfl rfl rfl rfl (s_run (d := 2) U.1 R.2.2.1 R.nb.2 (U.ri R) lim hl) ?_
      rintro _ _ ⟨j, ⟨j1, j2, j3⟩, rfl, rfl⟩ _
      have rel := fun i (hij : i ≤ j) => plj_rel R U h11 i (fun i2 h => j3 i2 (by omega))
      have sta := plj_sta (S := S) (n := n) (q := q) (fa := fa) (fb := fb) (k := k) (rt := rt)
      have go : ∀ i, i < j → fns S n q fa fb rt k (r + i) = false := fun i hij => by
        obtain ⟨Ri, Ui, _⟩ := rel i (by omega)
        rw [← fns_sta (sta i).1, ← over_eq Ri Ui]
        exact j3 i hij
      obtain ⟨Rj, Uj, hj17⟩ := rel j (Nat.le_refl _)
      have e38 := (sta j).2.1
      have hj1000 : j < 1000 := by
        rcases Nat.lt_or_ge j 1000 with e | e
        · exact e
        · obtain ⟨Ri, Ui, _⟩ := rel 999 (by omega)
          have := (few Ri Ui (by rw [fns_sta (sta 999).1]; exact go 999 (by omega))).1
          omega
      have hjl : j ≤ lim := Nat.le_trans j1 (Nat.min_le_left _ _)
      refine am_Meq (M' := mem (some k) (plj S n q fa fb k rt j)) rfl ?_
      refine am_aload_n rfl rfl rfl ?_
      refine am_aload_n rfl rfl rfl ?_
      refine am_iload_n rfl rfl ?_
      refine am_iconst rfl ?_
      refine am_iadd rfl ?_
      refine am_sald (k8 := i + 1) rfl (nI_1 i) (by omega) (by omega) ?_
      rw [hx1]
      refine am_V [.int (nI lim)] rfl rfl rfl rfl rfl rfl (m_run (d := 1) (S := plj S n q fa fb k rt j) (r := r) (k := k) (rt := rt) (pr := ptA n q fa fb rt) (rk := fun v => dst (bt fa fb q) n rt v) Rj.2.2.2.1 lim j hl hjl (fun i hij t => ?_) (fun i hij => ?_) ?_ (by rw [e38]; exact h10)) ?_
      · obtain ⟨Ri, Ui, _⟩ := rel i hij
        refine Ui.mr Ri ?_ ?_ rfl ?_ ?_
        · show plj S n q fa fb k rt j 38 8 = _
          rw [e38, (sta i).2.1]
        · show plj S n q fa fb k rt j 38 9 = _
          rw [e38, (sta i).2.1]
        · show plj S n q fa fb k rt j 44 = _
          rw [(sta j).2.2, (sta i).2.2]
        · show plj S n q fa fb k rt j 42 = _
          rw [(sta j).1.2.1, (sta i).1.2.1]
      · obtain ⟨Ri, Ui, _⟩ := rel i (by omega)
        rw [fns_sta (sta j).1, ltI_sta (sta j).1, ← ltI_sta (sta i).1, ← let_eq Ri Ui]
        exact ⟨go i hij, ltr_pos U.1 hn R.2.1 Ri.2.2.1.1⟩
      · rcases j2 with e | e
        · refine Or.inl ?_
          rw [Nat.min_def] at e
          split at e <;> omega
        · refine Or.inr ?_
          rw [← over_eq Rj Uj]
          exact e
      · rintro _ _ ⟨rfl, S1, hS1, rfl⟩ _
        refine am_icmp_eq rfl (fun _ => ?_) (fun h => absurd rfl h)
        refine law_next (hN _ _ (LI.scr ⟨n, q, fa, fb, Rj.dn, rt, r + j, Uj.dn, rfl, ?_⟩ hS1))
        show plj S n q fa fb k rt j 1 7 = mtot (plj S n q fa fb k rt j) n q fa fb rt k r j
        rw [hj17, mtot_sta (sta j).1 (by rw [e38])]
theorem law_finished (hL : am_sl g ≤ 2048) (hi : i + 4 ≤ am_sl g) (h : LI S ch) (hN : Nxt g i K) : AW g 9 0 0 0 161 (LL i) [] (mem ch S) K := by
  obtain ⟨n, q, fa, fb, R, h2⟩ := id h
  have hn := R.1.1
  refine am_aload_n rfl rfl rfl ?_
  cases ch with
  | none =>
    refine am_Vx [] rfl rfl rfl rfl rfl rfl (s_fin0 (d := 8)) ?_
    refine am_aload_n rfl rfl rfl ?_
    refine am_Vx [] rfl rfl rfl rfl rfl rfl (m_fin0 (d := 8) h2) ?_
    refine am_icmp_eq rfl (fun _ => ?_) (fun h => absurd rfl h)
    exact law_next (hN _ _ h)
  | some k =>
    obtain ⟨rt, r, U, h10, h11⟩ := h2
    refine am_Vx [] rfl rfl rfl rfl rfl rfl (s_fin (d := 2) U.1 R.2.2.1 (U.ri R)) ?_
    refine am_aload_n rfl rfl rfl ?_
    refine am_V [] rfl rfl rfl rfl rfl rfl (m_fin (d := 2) R.2.2.2.1 (U.mr R rfl rfl h10 rfl rfl)) ?_
    rintro _ _ ⟨rfl, S1, hS1, rfl⟩ _
    rw [over_eq R U]
    refine am_icmp_eq rfl (fun _ => ?_) (fun h => absurd rfl h)
    exact law_next (hN _ _ (h.scr hS1))
theorem law_rounds (hL : am_sl g ≤ 2048) (hi : i + 4 ≤ am_sl g) (h : LI S ch) (hN : Nxt g i K) : AW g 9 0 0 0 168 (LL i) [] (mem ch S) K := by
  obtain ⟨n, q, fa, fb, R, h2⟩ := id h
  have hn := R.1.1
  refine am_aload_n rfl rfl rfl ?_
  cases ch with
  | none =>
    refine am_Vx [] rfl rfl rfl rfl rfl rfl (s_rounds0 (d := 8)) ?_
    refine am_aload_n rfl rfl rfl ?_
    refine am_Vx [] rfl rfl rfl rfl rfl rfl (m_rounds0 (d := 8) h2) ?_
    refine am_icmp_eq rfl (fun _ => ?_) (fun h => absurd rfl h)
    exact law_next (hN _ _ h)
  | some k =>
    obtain ⟨rt, r, U, h10, h11⟩ := h2
    refine am_Vx [] rfl rfl rfl rfl rfl rfl (s_rounds (d := 8)) ?_
    refine am_aload_n rfl rfl rfl ?_
    refine am_Vx [] rfl rfl rfl rfl rfl rfl (m_rounds (d := 8) U.2.2.1 U.1) ?_
    refine am_icmp_eq rfl (fun _ => ?_) (fun h => absurd (by rw [h10]; exact U.cl.2.2.2) h)
    exact law_next (hN _ _ h)
theorem law_letters (hL : am_sl g ≤ 2048) (hi : i + 4 ≤ am_sl g) (h : LI S ch) (hN : Nxt g i K) : AW g 9 0 0 0 175 (LL i) [] (mem ch S) K := by
  obtain ⟨n, q, fa, fb, R, h2⟩ := id h
  have hn := R.1.1
  refine am_aload_n rfl rfl rfl ?_
  cases ch with
  | none =>
    refine am_Vx [] rfl rfl rfl rfl rfl rfl (s_letters0 (d := 8)) ?_
    refine am_aload_n rfl rfl rfl ?_
    refine am_Vx [] rfl rfl rfl rfl rfl rfl (m_letters0 (d := 8) h2) ?_
    refine am_icmp_eq rfl (fun _ => ?_) (fun h => absurd rfl h)
    exact law_next (hN _ _ h)
  | some k =>
    obtain ⟨rt, r, U, h10, h11⟩ := h2
    refine am_Vx [] rfl rfl rfl rfl rfl rfl (s_letters (d := 8)) ?_
    refine am_aload_n rfl rfl rfl ?_
    refine am_Vx [] rfl rfl rfl rfl rfl rfl (m_letters (d := 8) U.2.2.1 U.1) ?_
    refine am_icmp_eq rfl (fun _ => ?_) (fun h => absurd (h11) h)
    exact law_next (hN _ _ h)
theorem law_held (hL : am_sl g ≤ 2048) (hi : i + 4 ≤ am_sl g) (h : LI S ch) (hN : Nxt g i K) : AW g 9 0 0 0 182 (LL i) [] (mem ch S) K := by
  obtain ⟨n, q, fa, fb, R, h2⟩ := id h
  have hn := R.1.1
  refine am_aload_n rfl rfl rfl ?_
  refine am_aload_n rfl rfl rfl ?_
  refine am_iload_n rfl rfl ?_
  refine am_iconst rfl ?_
  refine am_iadd rfl ?_
  refine am_sald (k8 := i + 1) rfl (nI_1 i) (by omega) (by omega) ?_
  refine am_aload_n rfl rfl rfl ?_
  refine am_iload_n rfl rfl ?_
  refine am_iconst rfl ?_
  refine am_iadd rfl ?_
  refine am_sald (k8 := i + 2) rfl (nI_add i 2) (by omega) (by omega) ?_
  generalize hx1 : am_sx g (i + 1) = x
  generalize hx2 : am_sx g (i + 2) = y
  cases ch with
  | none =>
    refine am_Vx [.int x, .int y] rfl rfl rfl rfl rfl rfl (s_held0 (d := 8) x y) ?_
    refine am_aload_n rfl rfl rfl ?_
    refine am_aload_n rfl rfl rfl ?_
    refine am_iload_n rfl rfl ?_
    refine am_iconst rfl ?_
    refine am_iadd rfl ?_
    refine am_sald (k8 := i + 1) rfl (nI_1 i) (by omega) (by omega) ?_
    refine am_aload_n rfl rfl rfl ?_
    refine am_iload_n rfl rfl ?_
    refine am_iconst rfl ?_
    refine am_iadd rfl ?_
    refine am_sald (k8 := i + 2) rfl (nI_add i 2) (by omega) (by omega) ?_
    rw [hx1, hx2]
    refine am_Vx [.int x, .int y] rfl rfl rfl rfl rfl rfl (m_held0 (d := 8) h2 x y) ?_
    refine am_icmp_eq rfl (fun _ => ?_) (fun h => absurd rfl h)
    exact law_next (hN _ _ h)
  | some k =>
    obtain ⟨rt, r, U, h10, h11⟩ := h2
    by_cases c : (decide (0 ≤ x) && decide (x < S 2 4)) = false ∨ y < 0 ∨ ¬ y < 3
    · refine am_Vx [.int x, .int y] rfl rfl rfl rfl rfl rfl (s_heldNo (d := 7) x y c) ?_
      refine am_aload_n rfl rfl rfl ?_
      refine am_aload_n rfl rfl rfl ?_
      refine am_iload_n rfl rfl ?_
      refine am_iconst rfl ?_
      refine am_iadd rfl ?_
      refine am_sald (k8 := i + 1) rfl (nI_1 i) (by omega) (by omega) ?_
      refine am_aload_n rfl rfl rfl ?_
      refine am_iload_n rfl rfl ?_
      refine am_iconst rfl ?_
      refine am_iadd rfl ?_
      refine am_sald (k8 := i + 2) rfl (nI_add i 2) (by omega) (by omega) ?_
      rw [hx1, hx2]
      refine am_Vx [.int x, .int y] rfl rfl rfl rfl rfl rfl (m_heldNo (d := 7) x y (by rw [R.2.2.2.1.1, ← R.2.2.1.1]; exact c)) ?_
      refine am_icmp_eq rfl (fun _ => ?_) (fun h => absurd rfl h)
      exact law_next (hN _ _ h)
    · have c1 : (decide (0 ≤ x) && decide (x < S 2 4)) = true := by
        cases e : (decide (0 ≤ x) && decide (x < S 2 4)) with
        | true => rfl
        | false => exact absurd (Or.inl e) c
      obtain ⟨v, hv, rfl⟩ := hasN_of R.2.2.1.1 hn c1
      obtain ⟨s, hs0, rfl⟩ := nI_of (x := y) (fun e => c (Or.inr (Or.inl e)))
      have hs : s < 3 := (nI_ltI (b := 3) hs0 (by decide)).mp (Decidable.byContradiction (fun e => c (Or.inr (Or.inr e))))
      refine am_Vx [.int (nI v), .int (nI s)] rfl rfl rfl rfl rfl rfl (s_held (d := 7) R.2.2.1.1 hn v s hv hs) ?_
      refine am_aload_n rfl rfl rfl ?_
      refine am_aload_n rfl rfl rfl ?_
      refine am_iload_n rfl rfl ?_
      refine am_iconst rfl ?_
      refine am_iadd rfl ?_
      refine am_sald (k8 := i + 1) rfl (nI_1 i) (by omega) (by omega) ?_
      refine am_aload_n rfl rfl rfl ?_
      refine am_iload_n rfl rfl ?_
      refine am_iconst rfl ?_
      refine am_iadd rfl ?_
      refine am_sald (k8 := i + 2) rfl (nI_add i 2) (by omega) (by omega) ?_
      rw [hx1, hx2]
      refine am_V [.int (nI v), .int (nI s)] rfl rfl rfl rfl rfl rfl (m_held (d := 4) R.2.2.2.1 (U.mr R rfl rfl h10 rfl rfl) v s hv hs) ?_
      rintro _ _ ⟨rfl, S1, hS1, rfl⟩ _
      have e : S (20 + s) v = hAf S n q fa fb rt (ptA n q fa fb rt) k v s r := by
        have t := U.cl.1 v hv
        match s, hs with
        | 0, _ => exact congrArg (fun t : T3 => t.1) t
        | 1, _ => exact congrArg (fun t : T3 => t.2.1) t
        | 2, _ => exact congrArg (fun t : T3 => t.2.2) t
        | s + 3, hs => exact absurd hs (by omega)
      rw [e]
      refine am_icmp_eq rfl (fun _ => ?_) (fun h => absurd rfl h)
      exact law_next (hN _ _ (h.scr hS1))
/-- the loop over the script -/
theorem law_loop (hL : am_sl g ≤ 2048) (hK : ∀ M, K (some (.int 1)) M) : ∀ m i ch S, am_sl g ≤ i + m → i ≤ 4096 → LI S ch → AW g 9 0 0 0 10 (LL i) [] (mem ch S) K := by
  intro m
  induction m using Nat.strongRecOn with
  | ind m ih =>
    intro i ch S hm hi0 h
    refine am_iload_n rfl rfl ?_
    refine am_aload_n rfl rfl rfl ?_
    refine am_slen rfl ?_
    refine am_iconst rfl ?_
    refine am_isub rfl ?_
    have hti : (nI (am_sl g) - 4).toInt = (am_sl g : Int) - 4 := pk_sub_toInt (b := 4) (by omega) (by omega)
    have htx : (nI i).toInt = (i : Int) := nI_toInt (by omega)
    refine am_icmp_gt rfl (fun _ => ?_) (fun hc => ?_)
    · refine am_iconst rfl ?_
      exact am_ireturn rfl (fun _ => by decide) (hK _)
    · have hi : i + 4 ≤ am_sl g := by
        have : ¬ (nI (am_sl g) - 4).toInt < (nI i).toInt := fun q => hc (i32_lt.mpr q)
        omega
      have hN : Nxt g i K := fun ch S h => ih (m - 4) (by omega) (i + 4) ch S (by omega) (by omega) h
      refine am_aload_n rfl rfl rfl ?_
      refine am_iload_n rfl rfl ?_
      refine am_sald (k8 := i) rfl rfl (by omega) (by omega) ?_
      refine am_bipush rfl ?_
      refine am_iand rfl ?_
      obtain ⟨j, hj, e⟩ := pk_andE (am_sx g i) (m := 15) 4 (by decide)
      rw [e]
      match j, hj with
      | 0, _ => exact am_swIn (j := 0) rfl (by decide) (by decide) rfl (law_net hL hi h hN)
      | 1, _ => exact am_swIn (j := 1) rfl (by decide) (by decide) rfl (law_edge hL hi h hN)
      | 2, _ => exact am_swIn (j := 2) rfl (by decide) (by decide) rfl (law_identity hL hi h hN)
      | 3, _ => exact am_swIn (j := 3) rfl (by decide) (by decide) rfl (law_ready hL hi h hN)
      | 4, _ => exact am_swIn (j := 4) rfl (by decide) (by decide) rfl (law_choose hL hi h hN)
      | 5, _ => exact am_swIn (j := 5) rfl (by decide) (by decide) rfl (law_round hL hi h hN)
      | 6, _ => exact am_swIn (j := 6) rfl (by decide) (by decide) rfl (law_run hL hi h hN)
      | 7, _ => exact am_swIn (j := 7) rfl (by decide) (by decide) rfl (law_finished hL hi h hN)
      | 8, _ => exact am_swIn (j := 8) rfl (by decide) (by decide) rfl (law_rounds hL hi h hN)
      | 9, _ => exact am_swIn (j := 9) rfl (by decide) (by decide) rfl (law_letters hL hi h hN)
      | 10, _ => exact am_swIn (j := 10) rfl (by decide) (by decide) rfl (law_held hL hi h hN)
      | 11, _ => exact am_swOut rfl (Or.inr (by decide)) (law_next (hN _ _ h))
      | 12, _ => exact am_swOut rfl (Or.inr (by decide)) (law_next (hN _ _ h))
      | 13, _ => exact am_swOut rfl (Or.inr (by decide)) (law_next (hN _ _ h))
      | 14, _ => exact am_swOut rfl (Or.inr (by decide)) (law_next (hN _ _ h))
      | 15, _ => exact am_swOut rfl (Or.inr (by decide)) (law_next (hN _ _ h))
      | j + 16, hj => exact absurd hj (by omega)
end LAW

