/-! net, edge, identity, ready keep the relation -/
section NTR
variable {S : am_S0} {n q : Nat} {fa fb : Nat → Nat}
theorem clr_at (T : am_S0) : ∀ k, k ≤ 12 → (∀ v, v < k → itr clr1 k T 3 v = nI v + 1) ∧ (∀ u w, u < k → w < 12 → itr clr1 k T (6 + u) w = -1) ∧ ∀ j, j ≠ 3 → (j < 6 ∨ 18 ≤ j) → itr clr1 k T j = T j
  | 0, _ => ⟨fun v h => absurd h (Nat.not_lt_zero _), fun u w h => absurd h (Nat.not_lt_zero _), fun _ _ _ => rfl⟩
  | k + 1, hk => by
    obtain ⟨h1, h2, h3⟩ := clr_at T k (by omega)
    rw [itr_s]
    generalize itr clr1 k T = T1 at h1 h2 h3 ⊢
    unfold clr1
    refine ⟨fun v hv => ?_, fun u w hu hw => ?_, fun j hj hj2 => ?_⟩
    · rw [am_up_ne _ _ (by omega), am_up_at]
      by_cases c : v = k
      · rw [c, pk_us]
      · rw [pk_un c]; exact h1 v (by omega)
    · by_cases c : u = k
      · rw [c, am_up_at]
        unfold fil
        rw [if_pos hw]
      · rw [am_up_ne _ _ (by omega), am_up_ne _ _ (by omega)]
        exact h2 u w (by omega) hw
    · rw [am_up_ne _ _ (by omega), am_up_ne _ _ hj]
      exact h3 j hj hj2
theorem net_rel1 {T : am_S0} (h1 : 1 ≤ n) (hn : n ≤ 12) (c1 : ∀ v, v < 12 → T 3 v = nI v + 1) (c2 : ∀ u w, u < 12 → w < 12 → T (6 + u) w = -1) (e4 : T 2 4 = nI n) (e5 : T 2 5 = 0) : RelN (mnt (fgt T) (nI n) n) n 0 fa fb ∧ mnt (fgt T) (nI n) n 38 8 = -1 := by
  refine ⟨⟨⟨hn, by omega, fun e h => absurd h (Nat.not_lt_zero _), fun e f h => absurd h (Nat.not_lt_zero _)⟩, by omega, ⟨e4, hn, fun u w hu hw => ?_, fun u w e h => by cases h⟩, ⟨rfl, hn, rfl, by omega, fun e h => absurd h (Nat.not_lt_zero _)⟩, e5, ⟨fun v hv => ⟨?_, v + 1, ?_, by omega, by omega⟩, fun e h => absurd h (Nat.not_lt_zero _)⟩, rfl, fun h => absurd rfl h⟩, rfl⟩
  · show mnt (fgt T) (nI n) n (6 + u) w = em none
    have : mnt (fgt T) (nI n) n (6 + u) = T (6 + u) := by
      unfold mnt mch fgt
      rw [am_up_ne _ _ (by omega), am_up_ne _ _ (by omega), am_up_ne _ _ (by omega), am_up_ne _ _ (by omega)]
    rw [this]
    exact c2 u w hu hw
  · show T 3 v = pw n (fun v => nI v + 1) (fgt T 42) v
    rw [c1 v (by omega), pw_lt hv]
  · show pw n (fun v => nI v + 1) (fgt T 42) v = _
    rw [pw_lt hv, nI_1]
theorem clr_2 (T : am_S0) : itr clr1 12 T 2 = T 2 := (clr_at T 12 (Nat.le_refl _)).2.2 2 (by decide) (by decide)
theorem net_rel (h1 : 1 ≤ n) (hn : n ≤ 12) : RelN (mnt (fgt (itr clr1 12 (clr0 S (nI n)))) (nI n) n) n 0 fa fb ∧ mnt (fgt (itr clr1 12 (clr0 S (nI n)))) (nI n) n 38 8 = -1 := by
  have c := clr_at (clr0 S (nI n)) 12 (Nat.le_refl _)
  have e : clr0 S (nI n) 2 = upd (upd (S 2) 4 (nI n)) 5 0 := am_up_at _ _ _
  exact net_rel1 h1 hn c.1 c.2.1 (by rw [clr_2, e]; rfl) (by rw [clr_2, e]; rfl)
theorem tks_eq (R : RelN S n q fa fb) (x y w : Int32) : tks S (bt fa fb q) x y w = mtk S fa fb q x y w := by
  unfold tks mtk
  have hq := R.1.2.1
  have e1 : decide (S 2 5 < 24) = !decide (S 38 1 = 24) := by
    rw [R.2.2.2.2.1, R.2.2.2.1.2.2.1, Bool.eq_iff_iff, Bool.not_eq_true', decide_eq_true_eq, decide_eq_false_iff_not, show (24 : Int32) = nI 24 from rfl, nI_ltI (by omega) (by omega), nI_eq (by omega) (by omega)]
    omega
  rw [e1, R.2.2.1.1, R.2.2.2.1.1]
theorem bt_new {a b : Nat} (u w : Nat) : bt (fun e => if e = q then a else fa e) (fun e => if e = q then b else fb e) (q + 1) u w = match bt fa fb q u w with
    | some e => some e
    | none => bif (decide (a = u) && decide (b = w)) || (decide (a = w) && decide (b = u)) then some q else none := by
  show (match fst? (fun e => (decide ((if e = q then a else fa e) = u) && decide ((if e = q then b else fb e) = w)) || (decide ((if e = q then a else fa e) = w) && decide ((if e = q then b else fb e) = u))) q with | some u => some u | none => bif (decide ((if q = q then a else fa q) = u) && decide ((if q = q then b else fb q) = w)) || (decide ((if q = q then a else fa q) = w) && decide ((if q = q then b else fb q) = u)) then some q else none) = _
  rw [if_pos rfl, if_pos rfl]
  have e : fst? (fun e => (decide ((if e = q then a else fa e) = u) && decide ((if e = q then b else fb e) = w)) || (decide ((if e = q then a else fa e) = w) && decide ((if e = q then b else fb e) = u))) q = bt fa fb q u w := by
    unfold bt
    refine fst?_congr (fun e he => ?_)
    rw [if_neg (by omega), if_neg (by omega)]
  rw [e]
theorem addE_o {a b m j : Nat} {w : Int32} (ha : a < 12) (hb : b < 12) (hj : j < 6 ∨ 18 ≤ j) (h2 : j ≠ 2) (h4 : j ≠ 4) : addE S a b m w j = S j := by
  unfold addE
  rw [am_up_ne _ _ h2, am_up_ne _ _ (by omega), am_up_ne _ _ (by omega), am_up_ne _ _ h4]
theorem addE_4 {a b m : Nat} {w : Int32} : addE S a b m w 4 = upd (S 4) m w := by
  unfold addE
  rw [am_up_ne _ _ (by decide), am_up_ne _ _ (by omega), am_up_ne _ _ (by omega), am_up_at]
theorem addE_2 {a b m : Nat} {w : Int32} : addE S a b m w 2 = upd (S 2) 5 (nI m + 1) := am_up_at _ _ _
theorem addE_e {a b m : Nat} {w : Int32} (hab : a ≠ b) (u x : Nat) : addE S a b m w (6 + u) x = if (u = a ∧ x = b) ∨ (u = b ∧ x = a) then nI m else S (6 + u) x := by
  unfold addE
  rw [am_up_ne _ _ (by omega)]
  by_cases cb : u = b
  · rw [cb, am_up_at]
    by_cases cx : x = a
    · rw [cx, pk_us, if_pos (Or.inr ⟨rfl, rfl⟩)]
    · rw [pk_un cx, if_neg (by omega)]
  · rw [am_up_ne _ _ (by omega)]
    by_cases ca : u = a
    · rw [ca, am_up_at]
      by_cases cx : x = b
      · rw [cx, pk_us, if_pos (Or.inl ⟨rfl, rfl⟩)]
      · rw [pk_un cx, if_neg (by omega)]
    · rw [am_up_ne _ _ (by omega), am_up_ne _ _ (by omega), if_neg (by omega)]
theorem edge_rel (R : RelN S n q fa fb) {a b : Nat} {w : Int32} (ha : a < n) (hb : b < n) (hab : a ≠ b) (hq : q < 24) (hn : (bt fa fb q a b).isSome = false) (w1 : 1 ≤ w) (w2 : w ≤ 999) : ∃ fa2 fb2 : Nat → Nat, RelN (mad (addE (fgt S) a b q w) a b q w) n (q + 1) fa2 fb2 ∧ mad (addE (fgt S) a b q w) a b q w 38 8 = -1 := by
  have hno : bt fa fb q a b = none := by cases e : bt fa fb q a b with
    | none => rfl
    | some e9 => rw [e] at hn; cases hn
  have hno2 : bt fa fb q b a = none := by rw [bt_comm]; exact hno
  have h12 := R.1.1
  have hnot : ∀ e, e < q → ¬ (fa e = a ∧ fb e = b ∨ fa e = b ∧ fb e = a) := fun e he h => by
    have := bt_of R.1 he h
    rw [hno] at this
    cases this
  have f0 : ∀ j, j ≠ 0 → fgt S j = S j := fun j hj => am_up_ne _ _ hj
  have o : ∀ j, (j < 6 ∨ 18 ≤ j) → j ≠ 0 → j ≠ 2 → j ≠ 4 → addE (fgt S) a b q w j = S j := fun j h1 h2 h3 h4 => by rw [addE_o (by omega) (by omega) h1 h3 h4, f0 j h2]
  have o0 : addE (fgt S) a b q w 0 3 = 0 := by rw [addE_o (by omega) (by omega) (by decide) (by decide) (by decide)]; rfl
  have o2 : addE (fgt S) a b q w 2 = upd (S 2) 5 (nI q + 1) := by rw [addE_2, f0 2 (by decide)]
  have o4 : addE (fgt S) a b q w 4 = upd (S 4) q w := by rw [addE_4, f0 4 (by decide)]
  have oe : ∀ u x, addE (fgt S) a b q w (6 + u) x = if (u = a ∧ x = b) ∨ (u = b ∧ x = a) then nI q else S (6 + u) x := fun u x => by rw [addE_e hab, f0 (6 + u) (by omega)]
  have o3 := o 3 (by decide) (by decide) (by decide) (by decide)
  have o38 := o 38 (by decide) (by decide) (by decide) (by decide)
  have o39 := o 39 (by decide) (by decide) (by decide) (by decide)
  have o40 := o 40 (by decide) (by decide) (by decide) (by decide)
  have o41 := o 41 (by decide) (by decide) (by decide) (by decide)
  have o42 := o 42 (by decide) (by decide) (by decide) (by decide)
  generalize addE (fgt S) a b q w = T at o0 o2 o3 o4 oe o38 o39 o40 o41 o42 ⊢
  refine ⟨fun e => if e = q then a else fa e, fun e => if e = q then b else fb e, ⟨⟨h12, by omega, fun e he => ?_, fun e f he hf h => ?_⟩, R.2.1, ⟨?_, h12, fun u x hu hx => ?_, fun u x e h => ?_⟩, ⟨?_, h12, ?_, by omega, fun e he => ?_⟩, ?_, ⟨fun v hv => ?_, fun e he => ?_⟩, ?_, fun h => ?_⟩, rfl⟩
  · show (if e = q then a else fa e) < n ∧ (if e = q then b else fb e) < n ∧ (if e = q then a else fa e) ≠ (if e = q then b else fb e)
    by_cases c : e = q
    · rw [if_pos c, if_pos c]; exact ⟨ha, hb, hab⟩
    · rw [if_neg c, if_neg c]; exact R.1.2.2.1 e (by omega)
  · have h' : (if e = q then a else fa e) = (if f = q then a else fa f) ∧ (if e = q then b else fb e) = (if f = q then b else fb f) ∨ (if e = q then a else fa e) = (if f = q then b else fb f) ∧ (if e = q then b else fb e) = (if f = q then a else fa f) := h
    by_cases c : e = q
    · by_cases c2 : f = q
      · omega
      · rw [if_pos c, if_pos c, if_neg c2, if_neg c2] at h'
        exact absurd (by omega) (hnot f (by omega))
    · by_cases c2 : f = q
      · rw [if_neg c, if_neg c, if_pos c2, if_pos c2] at h'
        exact absurd (by omega) (hnot e (by omega))
      · rw [if_neg c, if_neg c, if_neg c2, if_neg c2] at h'
        exact R.1.2.2.2 e f (by omega) (by omega) h'
  · show T 2 4 = _
    rw [o2]
    exact R.2.2.1.1
  · rw [bt_new]
    have hold := R.2.2.1.2.2.1 u x hu hx
    have e0 : mad T a b q w (6 + u) = T (6 + u) := by
      unfold mad mch
      rw [am_up_ne _ _ (by omega), am_up_ne _ _ (by omega), am_up_ne _ _ (by omega), am_up_ne _ _ (by omega), am_up_ne _ _ (by omega)]
    rw [e0, oe u x]
    by_cases c : (u = a ∧ x = b) ∨ (u = b ∧ x = a)
    · rw [if_pos c]
      have hnn : bt fa fb q u x = none := by
        rcases c with ⟨c1, c2⟩ | ⟨c1, c2⟩
        · rw [c1, c2]; exact hno
        · rw [c1, c2]; exact hno2
      have : (decide (a = u) && decide (b = x) || decide (a = x) && decide (b = u)) = true := by
        rw [Bool.or_eq_true, Bool.and_eq_true, Bool.and_eq_true, decide_eq_true_eq, decide_eq_true_eq, decide_eq_true_eq, decide_eq_true_eq]
        omega
      rw [hnn, this]
      rfl
    · rw [if_neg c, hold]
      have : (decide (a = u) && decide (b = x) || decide (a = x) && decide (b = u)) = false := by
        rw [Bool.or_eq_false_iff, Bool.and_eq_false_iff, Bool.and_eq_false_iff, decide_eq_false_iff_not, decide_eq_false_iff_not, decide_eq_false_iff_not, decide_eq_false_iff_not]
        omega
      rw [this]
      cases bt fa fb q u x <;> rfl
  · have := bt_lt h
    omega
  · show T 38 0 = _
    rw [o38]
    exact R.2.2.2.1.1
  · show nI q + 1 = _
    rw [nI_1]
  · show upd (T 39) q (nI a) e = nI (if e = q then a else fa e) ∧ upd (T 40) q (nI b) e = nI (if e = q then b else fb e) ∧ (if e = q then a else fa e) < 12 ∧ (if e = q then b else fb e) < 12
    rw [o39, o40]
    by_cases c : e = q
    · rw [if_pos c, if_pos c, c, pk_us, pk_us]
      exact ⟨rfl, rfl, by omega, by omega⟩
    · rw [if_neg c, if_neg c, pk_un c, pk_un c]
      exact R.2.2.2.1.2.2.2.2 e (by omega)
  · show T 2 5 = _
    rw [o2]
    exact nI_1 q
  · show T 3 v = T 42 v ∧ ∃ z, T 42 v = nI z ∧ 1 ≤ z ∧ z ≤ 999
    rw [o3, o42]
    exact R.2.2.2.2.2.1.1 v hv
  · show T 4 e = upd (T 41) q w e ∧ ∃ z, upd (T 41) q w e = nI z ∧ 1 ≤ z ∧ z ≤ 999
    rw [o4, o41]
    by_cases c : e = q
    · rw [c, pk_us, pk_us]
      obtain ⟨z, hz, rfl⟩ := nI_of (x := w) (Int32.not_lt.mpr (i32_le.mpr (by have := i32_le.mp w1; have h1 : (1 : Int32).toInt = 1 := (by decide); have h0 : (0 : Int32).toInt = 0 := (by decide); omega)))
      exact ⟨rfl, z, rfl, (nI_leI (a := 1) (by decide) hz).mp w1, (nI_leI (b := 999) hz (by decide)).mp w2⟩
    · rw [pk_un c, pk_un c]
      exact R.2.2.2.2.2.1.2 e (by omega)
  · show T 0 3 = 0
    exact o0
  · exact absurd o0 h
theorem idn_eq (R : RelN S n q fa fb) {S1 : am_S0} (h : S1 38 0 = S 38 0) (x y : Int32) : mid S1 x y = idn S x y := by
  unfold mid idn
  rw [h, R.2.2.1.1, R.2.2.2.1.1]
theorem id_rel (R : RelN S n q fa fb) {v : Nat} {y : Int32} (hv : v < n) (y1 : 1 ≤ y) (y2 : y ≤ 999) : RelN (mch (am_up (fgt (am_up S 3 (upd (S 3) v y))) 42 (upd (S 42) v y))) n q fa fb ∧ mch (am_up (fgt (am_up S 3 (upd (S 3) v y))) 42 (upd (S 42) v y)) 38 8 = -1 := by
  refine ⟨⟨R.1, R.2.1, ⟨R.2.2.1.1, R.2.2.1.2.1, fun u w hu hw => ?_, R.2.2.1.2.2.2⟩, R.2.2.2.1.eq rfl rfl rfl rfl, R.2.2.2.2.1, ⟨fun u hu => ?_, R.2.2.2.2.2.1.2⟩, rfl, fun h => absurd rfl h⟩, rfl⟩
  · have : mch (am_up (fgt (am_up S 3 (upd (S 3) v y))) 42 (upd (S 42) v y)) (6 + u) = S (6 + u) := by
      unfold mch fgt
      rw [am_up_ne _ _ (by omega), am_up_ne _ _ (by omega), am_up_ne _ _ (by omega), am_up_ne _ _ (by omega)]
    rw [this]
    exact R.2.2.1.2.2.1 u w hu hw
  · show upd (S 3) v y u = upd (S 42) v y u ∧ ∃ z, upd (S 42) v y u = nI z ∧ 1 ≤ z ∧ z ≤ 999
    by_cases c : u = v
    · rw [c, pk_us, pk_us]
      obtain ⟨z, hz, rfl⟩ := nI_of (x := y) (Int32.not_lt.mpr (i32_le.mpr (by have := i32_le.mp y1; have h1 : (1 : Int32).toInt = 1 := (by decide); have h0 : (0 : Int32).toInt = 0 := (by decide); omega)))
      exact ⟨rfl, z, rfl, (nI_leI (a := 1) (by decide) hz).mp y1, (nI_leI (b := 999) hz (by decide)).mp y2⟩
    · rw [pk_un c, pk_un c]
      exact R.2.2.2.2.2.1.1 u hu
/-- measuring again changes nothing -/
theorem mdist_out {A : Nat → Nat → Option Nat} (hn : n ≤ 12) (f : Nat → Int32) {j : Nat} (h : ∀ a b, a < n → b < n → j ≠ 12 * a + b) : mdist A n f j = f j := by
  have hin : ini A n n f j = f j := by
    refine itr_inv (σ := Nat → Int32) (fun _ F => F j = f j) (fun a F ha hF => ?_) rfl
    refine itr_inv (σ := Nat → Int32) (fun _ F => F j = f j) (fun b F hb hF => ?_) hF
    show upd F (12 * a + b) _ j = f j
    rw [pk_un (h a b ha hb)]
    exact hF
  unfold mdist fw
  refine itr_inv (σ := Nat → Int32) (fun _ F => F j = f j) (fun y F hy hF => ?_) hin
  refine itr_inv (σ := Nat → Int32) (fun _ F => F j = f j) (fun a F ha hF => ?_) hF
  refine itr_inv (σ := Nat → Int32) (fun _ F => F j = f j) (fun b F hb hF => ?_) hF
  show upd F (12 * a + b) _ j = f j
  rw [pk_un (h a b ha hb)]
  exact hF
theorem mdist_fix {A : Nat → Nat → Option Nat} (hn : n ≤ 12) {f : Nat → Int32} (h : Fis n f (dst A n)) : mdist A n f = f := by
  funext j
  by_cases c : ∃ a b, a < n ∧ b < n ∧ j = 12 * a + b
  · obtain ⟨a, b, ha, hb, e⟩ := c
    rw [e, h a b ha hb]
    exact (mdist_rep hn f a b ha hb).1
  · exact mdist_out hn f (fun a b ha hb e => c ⟨a, b, ha, hb, e⟩)
/-- the state behind ready() of both -/
def rdC (S : am_S0) (A : Nat → Nat → Option Nat) (n : Nat) : am_S0 := bif decide (rdy S A n = 0) then am_up (am_up S 18 (msr A n n (far0 0 (S 18)))) 0 (upd (S 0) 3 1) else am_up S 18 (msr A n n (far0 0 (S 18)))
def rdM (S : am_S0) (A : Nat → Nat → Option Nat) (n : Nat) : am_S0 := bif decide (mrd A n (S 42) (S 43) = 0) then am_up (am_up S 43 (mdist A n (S 43))) 38 (upd (S 38) 6 1) else am_up S 43 (mdist A n (S 43))
theorem rdC_o {A : Nat → Nat → Option Nat} {j : Nat} (h : j ≠ 0 ∧ j ≠ 18) : rdC S A n j = S j := by
  unfold rdC
  cases decide (rdy S A n = 0)
  · exact am_up_ne _ _ h.2
  · show am_up _ 0 _ j = _
    rw [am_up_ne _ _ h.1, am_up_ne _ _ h.2]
theorem rdM_o {A : Nat → Nat → Option Nat} {j : Nat} (h : j ≠ 43 ∧ j ≠ 38) : rdM S A n j = S j := by
  unfold rdM
  cases decide (mrd A n (S 42) (S 43) = 0)
  · exact am_up_ne _ _ h.1
  · show am_up _ 38 _ j = _
    rw [am_up_ne _ _ h.2, am_up_ne _ _ h.1]
theorem rdM_38 {A : Nat → Nat → Option Nat} {i : Nat} (h : i ≠ 6) : rdM S A n 38 i = S 38 i := by
  unfold rdM
  cases decide (mrd A n (S 42) (S 43) = 0)
  · rfl
  · show upd (S 38) 6 1 i = _
    exact pk_un h
theorem rdM_43 {A : Nat → Nat → Option Nat} : rdM S A n 43 = mdist A n (S 43) := by
  unfold rdM
  cases decide (mrd A n (S 42) (S 43) = 0) <;> rfl
theorem ready_rel (R : RelN S n q fa fb) : mrd (bt fa fb q) n (rdC S (bt fa fb q) n 42) (rdC S (bt fa fb q) n 43) = rdy S (bt fa fb q) n ∧ RelN (rdM (rdC S (bt fa fb q) n) (bt fa fb q) n) n q fa fb := by
  have hn := R.1.1
  have e42 : rdC S (bt fa fb q) n 42 = S 42 := rdC_o (by decide)
  have e43 : rdC S (bt fa fb q) n 43 = S 43 := rdC_o (by decide)
  have re := ready_eq (f := S 43) hn R.nb R.2.1 (S := S) (ids := S 42) (fun v hv => (R.2.2.2.2.2.1.1 v hv).1)
  rw [e42, e43]
  refine ⟨re.1.symm, ?_⟩
  have m38 : rdC S (bt fa fb q) n 38 = S 38 := rdC_o (by decide)
  obtain ⟨a1, a2, a3, a4, a5, a6, a7, a8⟩ := R
  have oo : ∀ j, j ≠ 0 → j ≠ 18 → j ≠ 43 → j ≠ 38 → rdM (rdC S (bt fa fb q) n) (bt fa fb q) n j = S j := fun j h1 h2 h3 h4 => by rw [rdM_o ⟨h3, h4⟩, rdC_o ⟨h1, h2⟩]
  have o38 : ∀ i, i ≠ 6 → rdM (rdC S (bt fa fb q) n) (bt fa fb q) n 38 i = S 38 i := fun i h => by rw [rdM_38 h, m38]
  refine ⟨a1, a2, ⟨by rw [oo 2 (by decide) (by decide) (by decide) (by decide)]; exact a3.1, a3.2.1, fun u w hu hw => by rw [oo (6 + u) (by omega) (by omega) (by omega) (by omega)]; exact a3.2.2.1 u w hu hw, a3.2.2.2⟩, a4.eq (o38 0 (by decide)) (o38 1 (by decide)) (oo 39 (by decide) (by decide) (by decide) (by decide)) (oo 40 (by decide) (by decide) (by decide) (by decide)), by rw [oo 2 (by decide) (by decide) (by decide) (by decide)]; exact a5, ?_, ?_, ?_⟩
  · unfold IdW
    rw [oo 3 (by decide) (by decide) (by decide) (by decide), oo 4 (by decide) (by decide) (by decide) (by decide), oo 41 (by decide) (by decide) (by decide) (by decide), oo 42 (by decide) (by decide) (by decide) (by decide)]
    exact a6
  · rw [rdM_o (j := 0) (by decide)]
    unfold rdM
    rw [e42, e43, ← re.1, m38]
    cases c : decide (rdy S (bt fa fb q) n = 0) with
    | true =>
      show rdC S (bt fa fb q) n 0 3 = 1
      unfold rdC
      rw [c]
      rfl
    | false =>
      show rdC S (bt fa fb q) n 0 3 = rdC S (bt fa fb q) n 38 6
      rw [m38]
      unfold rdC
      rw [c]
      exact a7
  · rw [rdM_o (j := 0) (by decide), oo 42 (by decide) (by decide) (by decide) (by decide)]
    by_cases c : rdy S (bt fa fb q) n = 0
    · exact fun _ => re.2 (by rw [← re.1]; exact c)
    · unfold rdC
      rw [decide_eq_false c]
      exact a8
theorem ready_run {k rt r : Nat} (R : RelN S n q fa fb) (U : RunR S n q fa fb k rt r) : RunR (rdM (rdC S (bt fa fb q) n) (bt fa fb q) n) n q fa fb k rt r := by
  have oo : ∀ j, j ≠ 0 → j ≠ 18 → j ≠ 43 → j ≠ 38 → rdM (rdC S (bt fa fb q) n) (bt fa fb q) n j = S j := fun j h1 h2 h3 h4 => by rw [rdM_o ⟨h3, h4⟩, rdC_o ⟨h1, h2⟩]
  have m38 : rdC S (bt fa fb q) n 38 = S 38 := rdC_o (by decide)
  have o38 : ∀ i, i ≠ 6 → rdM (rdC S (bt fa fb q) n) (bt fa fb q) n 38 i = S 38 i := fun i h => by rw [rdM_38 h, m38]
  have e43 : rdM (rdC S (bt fa fb q) n) (bt fa fb q) n 43 = S 43 := by
    rw [rdM_43, rdC_o (j := 43) (by decide)]
    exact mdist_fix R.1.1 U.stat.1
  refine U.eq ⟨oo 41 (by decide) (by decide) (by decide) (by decide), oo 42 (by decide) (by decide) (by decide) (by decide), e43, oo 45 (by decide) (by decide) (by decide) (by decide), oo 46 (by decide) (by decide) (by decide) (by decide), oo 47 (by decide) (by decide) (by decide) (by decide)⟩ (oo 44 (by decide) (by decide) (by decide) (by decide)) (fun i hi => o38 i (by omega)) ?_ (fun j h1 h2 => oo j (by omega) (by omega) (by omega) (by omega))
  rw [oo 1 (by decide) (by decide) (by decide) (by decide)]
  exact ⟨rfl, rfl⟩
end NTR
