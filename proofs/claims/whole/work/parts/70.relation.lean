/-! class and model side by side -/
def IdW (S : am_S0) (n q : Nat) : Prop := (∀ v, v < n → S 3 v = S 42 v ∧ ∃ a, S 42 v = nI a ∧ 1 ≤ a ∧ a ≤ 999) ∧ ∀ e, e < q → S 4 e = S 41 e ∧ ∃ b, S 41 e = nI b ∧ 1 ≤ b ∧ b ≤ 999
def RelN (S : am_S0) (n q : Nat) (fa fb : Nat → Nat) : Prop := GR n q fa fb ∧ 0 < n ∧ NetIs S n (bt fa fb q) ∧ MN S n q fa fb ∧ S 2 5 = nI q ∧ IdW S n q ∧ S 0 3 = S 38 6 ∧ (S 0 3 ≠ 0 → Con (bt fa fb q) n ∧ Dis (S 42) n)
abbrev ptA (n q : Nat) (fa fb : Nat → Nat) (rt : Nat) : Nat → Option Nat := ptr (bt fa fb q) n (dst (bt fa fb q) n) rt
def Stat (S : am_S0) (n q : Nat) (fa fb : Nat → Nat) (k rt : Nat) : Prop := Fis n (S 43) (dst (bt fa fb q) n) ∧ (k = 2 ∨ k = 3 → ∀ v, v < n → S 44 v = em (ptA n q fa fb rt v)) ∧ (k = 2 → ∃ g, Hgt (ptA n q fa fb rt) n g ∧ ∀ w, w < n → S 45 w = nI (g w) ∧ g w ≤ 40) ∧ (k = 4 → ∃ m : Nat → Nat, ∀ v, v < n → S 47 v = nI (m v) ∧ 1 ≤ m v ∧ m v ≤ n ∧ ChS (bt fa fb q) n (S 42) (S 46) m v) ∧ (k = 5 → ∃ m : Nat → Nat, PrF n q fa fb (S 41) (S 46) (S 47) m) ∧ (k = 6 → ∀ v, v < n → S 47 v = nI (cm (bt fa fb q) n (S 38 9) n v))
def HK (S : am_S0) (n q : Nat) (fa fb : Nat → Nat) (k rt r v : Nat) : T3 := (hAf S n q fa fb rt (ptA n q fa fb rt) k v 0 r, hAf S n q fa fb rt (ptA n q fa fb rt) k v 1 r, hAf S n q fa fb rt (ptA n q fa fb rt) k v 2 r)
def fr0 (k rt v : Nat) : Bool := match k with
  | 0 => true
  | 1 | 7 => decide (v = rt)
  | _ => false
def FR (S : am_S0) (n q : Nat) (fa fb : Nat → Nat) (k rt r v : Nat) : Bool := match r with
  | 0 => fr0 k rt v
  | r + 1 => !decide ((HK S n q fa fb k rt (r + 1) v).1 = (HK S n q fa fb k rt r v).1)
def rooted (k : Nat) : Prop := k = 1 ∨ k = 2 ∨ k = 3 ∨ k = 7
def RunR (S : am_S0) (n q : Nat) (fa fb : Nat → Nat) (k rt r : Nat) : Prop := k < 8 ∧ r < 500 ∧ S 38 8 = nI k ∧ True ∧ S 1 5 = S 38 9 ∧ True ∧ (rooted k → rt < n ∧ S 38 9 = nI rt) ∧ (k = 2 ∨ k = 3 → ∀ v, v < n → S 28 v = em (ptA n q fa fb rt v)) ∧ Stat S n q fa fb k rt ∧ Cls S n (HK S n q fa fb k rt r) (FR S n q fa fb k rt r) r ∧ (∀ s, s < r → fns S n q fa fb rt k s = false) ∧ (Con (bt fa fb q) n ∧ Dis (S 42) n) ∧ (k = 1 → r ≤ 12)
section REL
variable {S : am_S0} {n q : Nat} {fa fb : Nat → Nat} {k rt r : Nat}
theorem RelN.nb (R : RelN S n q fa fb) : Nb (bt fa fb q) n := R.1.nb
theorem RunR.di (R : RelN S n q fa fb) (U : RunR S n q fa fb k rt r) : DI (bt fa fb q) n (dst (bt fa fb q) n) := U.2.2.2.2.2.2.2.2.2.2.2.1.1.di R.1.1 R.nb
theorem RelN.ws (R : RelN S n q fa fb) : ∃ W : Nat → Nat, (∀ e, e < q → S 41 e = nI (W e)) ∧ ∀ e, e < q → 1 ≤ W e ∧ W e ≤ 999 := by
  refine ⟨fun e => (S 41 e).toNatClampNeg, fun e he => ?_, fun e he => ?_⟩
  · obtain ⟨_, b, h, h1, h2⟩ := R.2.2.2.2.2.1.2 e he
    show S 41 e = nI (S 41 e).toNatClampNeg
    rw [h, nI_clamp (by omega)]
  · obtain ⟨_, b, h, h1, h2⟩ := R.2.2.2.2.2.1.2 e he
    show 1 ≤ (S 41 e).toNatClampNeg ∧ (S 41 e).toNatClampNeg ≤ 999
    rw [h, nI_clamp (by omega)]
    exact ⟨h1, h2⟩
/-- trees: ranks and colours -/
theorem RunR.tr (R : RelN S n q fa fb) (U : RunR S n q fa fb k rt r) (hr : rt < n) : Tr (ptA n q fa fb rt) n (fun v => dst (bt fa fb q) n rt v) := by
  have I := U.di R
  refine ⟨fun v hv => ?_, fun v u hv h => ?_⟩
  · have := I.2.2.2.2.2 rt v hr hv
    have := R.1.1
    show dst (bt fa fb q) n rt v < 12
    omega
  · have := ptr_some h
    exact ⟨this.1, this.2.2⟩
theorem RunR.clr (R : RelN S n q fa fb) (U : RunR S n q fa fb k rt r) : Clr (ptA n q fa fb rt) n (S 42) := by
  have hd := U.2.2.2.2.2.2.2.2.2.2.2.1.2
  refine ⟨fun v => (S 42 v).toNatClampNeg, fun v hv => ?_, fun u w hu h => ?_⟩
  · obtain ⟨_, a, h, h1, h2⟩ := R.2.2.2.2.2.1.1 v hv
    show S 42 v = nI (S 42 v).toNatClampNeg ∧ (S 42 v).toNatClampNeg < 1024
    rw [h, nI_clamp (by omega)]
    exact ⟨rfl, by omega⟩
  · have hw := ptr_some h
    have hne := (R.nb.1 u w hw.2.1).2.2
    obtain ⟨_, a, h, h1, h2⟩ := R.2.2.2.2.2.1.1 u hu
    obtain ⟨_, b, h', h1', h2'⟩ := R.2.2.2.2.2.1.1 w hw.1
    show (S 42 u).toNatClampNeg ≠ (S 42 w).toNatClampNeg
    rw [h, h', nI_clamp (by omega), nI_clamp (by omega)]
    intro e
    exact hne (hd u w hu hw.1 (by rw [h, h', e]))
theorem RunR.mr (R : RelN S n q fa fb) (U : RunR S n q fa fb k rt r) {S1 : am_S0} (h8 : S1 38 8 = S 38 8) (h9 : S1 38 9 = S 38 9) (h10 : S1 38 10 = nI r) (h44 : S1 44 = S 44) (h42 : S1 42 = S 42) : MR S1 n q fa fb k rt r (ptA n q fa fb rt) (fun v => dst (bt fa fb q) n rt v) := by
  have I := U.di R
  have hrt := U.2.2.2.2.2.2.1
  refine ⟨by rw [h8]; exact U.2.2.1, U.1, h10, by have := U.2.1; omega, fun h => by rw [h9]; exact hrt h, fun h => ?_, fun h => ?_, U.2.2.2.2.2.2.2.2.2.2.2.2, fun e he => ⟨(R.1.2.2.1 e he).1, (R.1.2.2.1 e he).2.1⟩⟩
  · have hr := (hrt (by unfold rooted; omega)).1
    rw [h44]
    exact ⟨ptr_rk R.1.1 I hr, U.2.2.2.2.2.2.2.2.1.2.1 h⟩
  · have hr := (hrt (by unfold rooted; omega)).1
    have T := U.tr R hr
    rw [h42]
    exact ⟨fun v hv => ptr_none R.nb I hr hv, fun j _ => (ck_clr (fun v u hv e => (T.2 v u hv e).1) (U.clr R) j).dif (fun v u hv e => (T.2 v u hv e).1)⟩
theorem RunR.ri (R : RelN S n q fa fb) (U : RunR S n q fa fb k rt r) : RunIs S n k rt (ptA n q fa fb rt) := by
  have hrt := U.2.2.2.2.2.2.1
  refine ⟨fun h v hv => ⟨U.2.2.2.2.2.2.2.1 h v hv, fun u hu => by have := (ptr_some hu).1; have := R.1.1; omega⟩, fun h => ?_⟩
  have := hrt h
  exact ⟨this.1, by rw [U.2.2.2.2.1]; exact this.2⟩
theorem anyb_congr {p p2 : Nat → Bool} : ∀ {n : Nat}, (∀ u, u < n → p u = p2 u) → anyb p n = anyb p2 n
  | 0, _ => rfl
  | n + 1, h => by
    unfold anyb
    rw [anyb_congr (n := n) (fun u hu => h u (by omega)), h n (by omega)]
theorem FR7 (R : RelN S n q fa fb) (U : RunR S n q fa fb 7 rt r) {v : Nat} (hv : v < n) : FR S n q fa fb 7 rt r v = decide (dst (bt fa fb q) n rt v = r) := by
  have I := U.di R
  have hF := U.2.2.2.2.2.2.2.2.1.1
  have hn := R.1.1
  have hrt := (U.2.2.2.2.2.2.1 (by unfold rooted; omega)).1
  have hb := I.2.2.2.2.2 rt v hrt hv
  have hr := U.2.1
  cases r with
  | zero =>
    show decide (v = rt) = _
    rw [Bool.eq_iff_iff, decide_eq_true_eq, decide_eq_true_eq]
    exact ⟨fun h => by rw [h]; exact I.1 rt hrt, fun h => (I.2.1 rt v hrt hv h).symm⟩
  | succ r =>
    show (!decide ((H7 (bt fa fb q) (S 43) n rt (r + 1) v).1 = (H7 (bt fa fb q) (S 43) n rt r v).1)) = _
    rw [H7_is hn I hF hrt (by omega) hv, H7_is hn I hF hrt (by omega) hv]
    show (!decide ((bif decide (r + 1 < dst (bt fa fb q) n rt v) then (-1 : Int32) else nI (dst (bt fa fb q) n rt v % 2)) = bif decide (r < dst (bt fa fb q) n rt v) then -1 else nI (dst (bt fa fb q) n rt v % 2))) = _
    rcases Nat.lt_trichotomy (dst (bt fa fb q) n rt v) (r + 1) with c | c | c
    · rw [decide_eq_false (show ¬ r + 1 < dst (bt fa fb q) n rt v by omega), decide_eq_false (show ¬ r < dst (bt fa fb q) n rt v by omega), decide_eq_true (show (bif false then (-1 : Int32) else nI (dst (bt fa fb q) n rt v % 2)) = (bif false then (-1 : Int32) else nI (dst (bt fa fb q) n rt v % 2)) from rfl), decide_eq_false (show ¬ dst (bt fa fb q) n rt v = r + 1 by omega)]
      rfl
    · rw [decide_eq_false (show ¬ r + 1 < dst (bt fa fb q) n rt v by omega), decide_eq_true (show r < dst (bt fa fb q) n rt v by omega), decide_eq_true c]
      show (!decide (nI (dst (bt fa fb q) n rt v % 2) = -1)) = _
      rw [decide_eq_false (show ¬ nI (dst (bt fa fb q) n rt v % 2) = -1 from fun h => neg1_nI _ (by omega) h.symm)]
      rfl
    · rw [decide_eq_true (show r + 1 < dst (bt fa fb q) n rt v by omega), decide_eq_true (show r < dst (bt fa fb q) n rt v by omega), decide_eq_false (show ¬ dst (bt fa fb q) n rt v = r + 1 by omega)]
      rfl
/-- fresh: those who send in rounds of LEAST, WAYS, SIDES -/
theorem fresh_lo (R : RelN S n q fa fb) (U : RunR S n q fa fb k rt r) (hk : k = 0 ∨ k = 1 ∨ k = 7) {v : Nat} (hv : v < n) : ltO S n q fa fb rt k r v = bif FR S n q fa fb k rt r v then dgr (bt fa fb q) n v else 0 := by
  have I := U.di R
  have hF := U.2.2.2.2.2.2.2.2.1.1
  have hd := U.2.2.2.2.2.2.2.2.2.2.2.1.2
  have hn := R.1.1
  rcases hk with e | e | e
  · subst e
    cases r with
    | zero => rfl
    | succ r =>
      have hr := U.2.1
      have s0 := lst_spec (ids := S 42) hn I hF hv (show r < 1000000 by omega)
      have s1 := lst_spec (ids := S 42) hn I hF hv (show r + 1 < 1000000 by omega)
      show (bif decide (lst (S 42) (S 43) n v (nI (r + 1)) = lst (S 42) (S 43) n v (nI r)) then 0 else _) = bif !decide (S 42 (lst (S 42) (S 43) n v (nI (r + 1))) = S 42 (lst (S 42) (S 43) n v (nI r))) then _ else 0
      by_cases c : lst (S 42) (S 43) n v (nI (r + 1)) = lst (S 42) (S 43) n v (nI r)
      · rw [decide_eq_true c, decide_eq_true (by rw [c])]; rfl
      · rw [decide_eq_false c, decide_eq_false (fun h => c (hd _ _ s1.1 s0.1 h))]; rfl
  · subst e
    cases r with
    | zero => rfl
    | succ r =>
      show (bif decide (hwy (bt fa fb q) (wv fa fb (S 41) rt q) (S 41) n v 0 (r + 1) = hwy (bt fa fb q) (wv fa fb (S 41) rt q) (S 41) n v 0 r) then 0 else _) = bif !decide (hwy (bt fa fb q) (wv fa fb (S 41) rt q) (S 41) n v 0 (r + 1) = hwy (bt fa fb q) (wv fa fb (S 41) rt q) (S 41) n v 0 r) then _ else 0
      cases decide (hwy (bt fa fb q) (wv fa fb (S 41) rt q) (S 41) n v 0 (r + 1) = hwy (bt fa fb q) (wv fa fb (S 41) rt q) (S 41) n v 0 r) <;> rfl
  · subst e
    have hrt := (U.2.2.2.2.2.2.1 (by unfold rooted; omega)).1
    have hb := I.2.2.2.2.2 rt v hrt hv
    have hr := U.2.1
    show (bif decide (S 43 (12 * rt + v) = nI r) then _ else 0) = _
    have e1 : decide (S 43 (12 * rt + v) = nI r) = FR S n q fa fb 7 rt r v := by
      rw [FR7 R U hv, hF rt v hrt hv, Bool.eq_iff_iff, decide_eq_true_eq, decide_eq_true_eq, nI_eq (by omega) (by omega)]
    rw [e1]
end REL
