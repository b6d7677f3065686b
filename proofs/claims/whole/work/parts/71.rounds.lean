/-! a round of the class and of the model -/
section RND
variable {S : am_S0} {n q : Nat} {fa fb : Nat → Nat} {k rt r : Nat}
theorem RunR.cl (U : RunR S n q fa fb k rt r) : Cls S n (HK S n q fa fb k rt r) (FR S n q fa fb k rt r) r := U.2.2.2.2.2.2.2.2.2.1
theorem RunR.hist (U : RunR S n q fa fb k rt r) : ∀ s, s < r → fns S n q fa fb rt k s = false := U.2.2.2.2.2.2.2.2.2.2.1
theorem RunR.stat (U : RunR S n q fa fb k rt r) : Stat S n q fa fb k rt := U.2.2.2.2.2.2.2.2.1
theorem RunR.b24 (U : RunR S n q fa fb k rt r) {v : Nat} (hv : v < n) : S 24 v = (HK S n q fa fb k rt r v).1 := congrArg (fun t : T3 => t.1) (U.cl.2.1 v hv)
theorem RunR.b25 (U : RunR S n q fa fb k rt r) {v : Nat} (hv : v < n) : S 25 v = (HK S n q fa fb k rt r v).2.1 := congrArg (fun t : T3 => t.2.1) (U.cl.2.1 v hv)
/-- letters of LEAST, WAYS, SIDES -/
theorem let_fresh (R : RelN S n q fa fb) (U : RunR S n q fa fb k rt r) (hk : k = 0 ∨ k = 1 ∨ k = 7) : nI (frl (bt fa fb q) n (S 27)) = smI (ltO S n q fa fb rt k r) n := frl_smI R.nb (fun v hv => U.cl.2.2.1 v hv) (fun v hv => fresh_lo R U hk hv)
/-- open of CHOSEN -/
theorem ch_open (R : RelN S n q fa fb) (U : RunR S n q fa fb 4 rt r) {v : Nat} (hv : v < n) : S 24 v = 0 ↔ (!mov (S 47) v (nI r)) = true := by
  obtain ⟨m, hm⟩ := U.stat.2.2.2.1 rfl
  obtain ⟨q1, q2, q3, q4⟩ := hm v hv
  have hr := U.2.1
  have hn := R.1.1
  rw [U.b24 hv]
  show (bif mov (S 47) v (nI r) then S 46 v else 0) = 0 ↔ _
  cases e : mov (S 47) v (nI r) with
  | false => exact ⟨fun _ => rfl, fun _ => rfl⟩
  | true =>
    refine ⟨fun h => ?_, fun h => by cases h⟩
    have h' : S 46 v = 0 := h
    rcases q4 with ⟨p, _⟩ | ⟨p, _⟩ <;> rw [p] at h' <;> exact absurd h' (by decide)
theorem pr_open (R : RelN S n q fa fb) (U : RunR S n q fa fb 5 rt r) {v : Nat} (hv : v < n) : S 24 v = -1 ↔ (!mov (S 47) v (nI r)) = true := by
  obtain ⟨m, P⟩ := U.stat.2.2.2.2.1 rfl
  rw [U.b24 hv, Bool.not_eq_true']
  exact (pr_op R.1 P (by have := U.2.1; omega) hv).2
theorem opn_eq (r : Nat) : nI (2 * cnt (fun e => !mov (S 47) (fa e) (nI r) && !mov (S 47) (fb e) (nI r)) q) = 2 * nI (opn fa fb (S 47) q (nI r)) := by
  rw [show (2 : Int32) = nI 2 from rfl, pk_mul]
  unfold opn
  congr 2
  exact cnt_congr q (fun e _ => (Bool.not_or _ _).symm)
/-- CORE: how far a run can go -/
theorem co_hist (R : RelN S n q fa fb) (U : RunR S n q fa fb 6 rt r) : (∀ s, s < r → ∃ v, v < n ∧ cm (bt fa fb q) n (S 38 9) n v = s + 1) ∧ r ≤ n ∧ (r = n → ∀ v, v < n → cm (bt fa fb q) n (S 38 9) n v ≠ 0) := by
  have hw := U.stat.2.2.2.2.2 rfl
  have hn := R.1.1
  have h1 : ∀ s, s < r → ∃ v, v < n ∧ cm (bt fa fb q) n (S 38 9) n v = s + 1 := fun s hs => by
    have h := U.hist s hs
    have h' : (!anyb (fun v => decide (S 47 v = nI s + 1)) n) = false := h
    rw [Bool.not_eq_false'] at h'
    obtain ⟨v, hv, e⟩ := anyb_true.mp h'
    have hb := cm_le (A := bt fa fb q) (n := n) (K := S 38 9) n v
    have hr := U.2.1
    rw [decide_eq_true_eq, hw v hv, nI_1, nI_eq (by omega) (by omega)] at e
    exact ⟨v, hv, e⟩
  have h2 : r ≤ n := by
    cases r with
    | zero => omega
    | succ r =>
      obtain ⟨v, hv, e⟩ := h1 r (by omega)
      have := cm_le (A := bt fa fb q) (n := n) (K := S 38 9) n v
      omega
  refine ⟨h1, h2, fun e v hv h0 => ?_⟩
  subst e
  have := pigeon r (r + 1) (fun i x => if i = r then cm (bt fa fb q) r (S 38 9) r x = 0 else cm (bt fa fb q) r (S 38 9) r x = i + 1) (fun i hi => by
    by_cases c : i = r
    · exact ⟨v, hv, by show (if i = r then _ else _); rw [if_pos c]; exact h0⟩
    · obtain ⟨x, hx, ex⟩ := h1 i (by omega)
      exact ⟨x, hx, by show (if i = r then _ else _); rw [if_neg c]; exact ex⟩) (fun i j x hi hj p1 p2 => by
    have p1' : (if i = r then cm (bt fa fb q) r (S 38 9) r x = 0 else cm (bt fa fb q) r (S 38 9) r x = i + 1) := p1
    have p2' : (if j = r then cm (bt fa fb q) r (S 38 9) r x = 0 else cm (bt fa fb q) r (S 38 9) r x = j + 1) := p2
    split at p1' <;> split at p2' <;> omega)
  omega
theorem col_hist (U : RunR S n q fa fb 3 rt r) : r ≤ 4 := by
  by_cases c : 4 < r
  · have h := U.hist 4 c
    have h' : decide (nI 4 = 4) = false := h
    exact absurd h' (by decide)
  · omega
theorem tic_cls : bri (tic S) = bri S ∧ tri (tic S) = tri S := ⟨rfl, rfl⟩
/-- how many letters -/
theorem let_eq (R : RelN S n q fa fb) (U : RunR S n q fa fb k rt r) : ltr k (bt fa fb q) n (tic S) = ltI S n q fa fb rt k r := by
  have hn := R.1.1
  have hk := U.1
  have hr := U.2.1
  match k, hk, U with
  | 0, _, U => exact let_fresh R U (Or.inl rfl)
  | 1, _, U => exact let_fresh R U (Or.inr (Or.inl rfl))
  | 2, _, U =>
    have hrt := (U.2.2.2.2.2.2.1 (by unfold rooted; omega)).1
    have T := U.tr R hrt
    obtain ⟨g, Hg, hg⟩ := U.stat.2.2.1 rfl
    have I := U.di R
    show nI (cnt (fun v => due (tic S) v && !decide (S 28 v = -1)) n) = smI (fun x => bif decide (x = rt) then 0 else bif decide (S 45 x + 1 = nI (r + 1)) then 1 else 0) n
    rw [← smI_cnt]
    refine smI_congr (fun v hv => ?_)
    have hd : due (tic S) v = decide (g v = r) := sums_due (S := tic S) (ids := S 42) (ht := S 45) hn T Hg hg (by omega) (fun v hv => U.cl.2.1 v hv) hv
    rw [hd, U.2.2.2.2.2.2.2.1 (Or.inl rfl) v hv]
    have e1 : decide (em (ptA n q fa fb rt v) = -1) = decide (v = rt) := by
      rw [Bool.eq_iff_iff, decide_eq_true_eq, decide_eq_true_eq, em_n1 (fun e he => by have := (ptr_some he).1; omega), ptr_none R.nb I hrt hv]
    have e2 : decide (S 45 v + 1 = nI (r + 1)) = decide (g v = r) := by
      have := hg v hv
      rw [this.1, nI_1, Bool.eq_iff_iff, decide_eq_true_eq, decide_eq_true_eq, nI_eq (by omega) (by omega)]
      omega
    rw [e1, e2]
    cases decide (v = rt) <;> cases decide (g v = r) <;> rfl
  | 3, _, U =>
    have hrt := (U.2.2.2.2.2.2.1 (by unfold rooted; omega)).1
    show S 2 4 - 1 = smI (fun x => bif decide (x = rt) then 0 else 1) n
    rw [R.2.2.1.1, smI_congr (h := fun x => bif !decide (x = rt) then 1 else 0) (fun v _ => by cases decide (v = rt) <;> rfl), smI_cnt]
    have := cnt_upd (p := fun _ => true) (p2 := fun x => !decide (x = rt)) (x := rt) rfl (by rw [decide_eq_true rfl]; rfl) (fun u hu => by rw [decide_eq_false hu]; rfl) n hrt
    rw [cnt_all (fun _ _ => rfl)] at this
    have hc : cnt (fun x => !decide (x = rt)) n = n - 1 := by omega
    rw [hc]
    exact pk_sub (b := 1) R.2.1
  | 4, _, U =>
    show nI (lam (bt fa fb q) n (S 24) 0) = 2 * nI (opn fa fb (S 47) q (nI r))
    rw [lam_opn R.1 (p := fun v => !mov (S 47) v (nI r)) (fun v hv => ch_open R U hv)]
    exact opn_eq r
  | 5, _, U =>
    show nI (lam (bt fa fb q) n (S 24) (-1)) = 2 * nI (opn fa fb (S 47) q (nI r))
    rw [lam_opn R.1 (p := fun v => !mov (S 47) v (nI r)) (fun v hv => pr_open R U hv)]
    exact opn_eq r
  | 6, _, U =>
    have hw := U.stat.2.2.2.2.2 rfl
    show nI (sm (fun v => if S 27 v = 0 then 0 else nbw (bt fa fb q) n (S 24) v 1) n) = smI (ltO S n q fa fb rt 6 r) n
    rw [nI_sm]
    refine smI_congr (fun v hv => ?_)
    rw [U.cl.2.2.1 v hv]
    cases r with
    | zero => rfl
    | succ r =>
      show nI (if bi (!decide ((H6 (bt fa fb q) n (S 47) (r + 1) v).1 = (H6 (bt fa fb q) n (S 47) r v).1)) = 0 then 0 else nbw (bt fa fb q) n (S 24) v 1) = bif decide (S 47 v = nI (r + 1)) then nI (ins (bt fa fb q) (S 47) n v (nI (r + 2))) else 0
      have hb := cm_le (A := bt fa fb q) (n := n) (K := S 38 9) n v
      have e1 : (!decide ((H6 (bt fa fb q) n (S 47) (r + 1) v).1 = (H6 (bt fa fb q) n (S 47) r v).1)) = decide (cm (bt fa fb q) n (S 38 9) n v = r + 1) := by
        unfold H6
        rw [co_mov hn hw (show r + 1 < 1000000 by omega) hv, co_mov hn hw (show r < 1000000 by omega) hv]
        show (!decide ((bif _ then (0 : Int32) else 1) = bif _ then 0 else 1)) = _
        rcases Nat.lt_trichotomy (cm (bt fa fb q) n (S 38 9) n v) (r + 1) with c | c | c
        · have : decide (cm (bt fa fb q) n (S 38 9) n v ≠ 0 ∧ cm (bt fa fb q) n (S 38 9) n v ≤ r + 1) = decide (cm (bt fa fb q) n (S 38 9) n v ≠ 0 ∧ cm (bt fa fb q) n (S 38 9) n v ≤ r) := by rw [Bool.eq_iff_iff, decide_eq_true_eq, decide_eq_true_eq]; omega
          rw [this, decide_eq_false (show ¬ cm (bt fa fb q) n (S 38 9) n v = r + 1 by omega)]
          cases decide (cm (bt fa fb q) n (S 38 9) n v ≠ 0 ∧ cm (bt fa fb q) n (S 38 9) n v ≤ r) <;> rfl
        · rw [decide_eq_true (show cm (bt fa fb q) n (S 38 9) n v ≠ 0 ∧ cm (bt fa fb q) n (S 38 9) n v ≤ r + 1 by omega), decide_eq_false (show ¬ (cm (bt fa fb q) n (S 38 9) n v ≠ 0 ∧ cm (bt fa fb q) n (S 38 9) n v ≤ r) by omega), decide_eq_true c]
          rfl
        · rw [decide_eq_false (show ¬ (cm (bt fa fb q) n (S 38 9) n v ≠ 0 ∧ cm (bt fa fb q) n (S 38 9) n v ≤ r + 1) by omega), decide_eq_false (show ¬ (cm (bt fa fb q) n (S 38 9) n v ≠ 0 ∧ cm (bt fa fb q) n (S 38 9) n v ≤ r) by omega), decide_eq_false (show ¬ cm (bt fa fb q) n (S 38 9) n v = r + 1 by omega)]
          rfl
      have e2 : decide (S 47 v = nI (r + 1)) = decide (cm (bt fa fb q) n (S 38 9) n v = r + 1) := by
        rw [hw v hv, Bool.eq_iff_iff, decide_eq_true_eq, decide_eq_true_eq, nI_eq (by omega) (by omega)]
      rw [e1, e2, co_nbw hn hw R.nb (by omega) (fun u hu => U.b24 hu)]
      cases decide (cm (bt fa fb q) n (S 38 9) n v = r + 1) <;> rfl
  | 7, _, U => exact let_fresh R U (Or.inr (Or.inr rfl))
  | k + 8, hk, _ => exact absurd hk (by omega)
/-- whether it is over -/
theorem over_eq (R : RelN S n q fa fb) (U : RunR S n q fa fb k rt r) : ovr k (bt fa fb q) n rt S = fns S n q fa fb rt k r := by
  have hn := R.1.1
  have hk := U.1
  have hr := U.2.1
  have hl := let_eq R U
  match k, hk, U, hl with
  | 0, _, U, hl => exact congrArg (fun x => decide (x = (0 : Int32))) hl
  | 1, _, U, hl => exact congrArg (fun x => decide (x = (0 : Int32))) hl
  | 2, _, U, hl =>
    have hrt := (U.2.2.2.2.2.2.1 (by unfold rooted; omega)).1
    have T := U.tr R hrt
    obtain ⟨g, Hg, hg⟩ := U.stat.2.2.1 rfl
    show decide (S 26 rt = 1) = !decide (nI r ≤ S 45 rt)
    have h26 : S 26 rt = (H2 (ptA n q fa fb rt) (S 42) (S 45) n r rt).2.2 := congrArg (fun t : T3 => t.2.2) (U.cl.2.1 rt hrt)
    rw [h26, H2_is hn T hg (by omega) hrt]
    have e : decide (nI r ≤ S 45 rt) = decide (r ≤ g rt) := by
      have := hg rt hrt
      rw [this.1, Bool.eq_iff_iff, decide_eq_true_eq, decide_eq_true_eq, nI_leI (by omega) (by omega)]
    rw [e]
    show decide ((bif decide (r ≤ g rt) then (0 : Int32) else 1) = 1) = _
    cases decide (r ≤ g rt) <;> rfl
  | 3, _, U, hl =>
    have h4 := col_hist U
    show decide (4 ≤ S 1 6) = decide (nI r = 4)
    rw [U.cl.2.2.2, Bool.eq_iff_iff, decide_eq_true_eq, decide_eq_true_eq, show (4 : Int32) = nI 4 from rfl, nI_leI (by omega) (by omega), nI_eq (by omega) (by omega)]
    omega
  | 4, _, U, hl =>
    show (!anyb (fun v => decide (S 24 v = 0)) n) = !anyb (fun v => !mov (S 47) v (nI r)) n
    exact congrArg (fun b => !b) (anyb_congr (fun v hv => by rw [Bool.eq_iff_iff, decide_eq_true_eq]; exact ch_open R U hv))
  | 5, _, U, hl => exact congrArg (fun x => decide (x = (0 : Int32))) hl
  | 6, _, U, hl =>
    have hw := U.stat.2.2.2.2.2 rfl
    obtain ⟨c1, c2, c3⟩ := co_hist R U
    show (!anyb (drp S (bt fa fb q) n) n) = !anyb (fun v => decide (S 47 v = nI r + 1)) n
    rw [anyb_congr (fun v hv => ?_)]
    have hb := cm_le (A := bt fa fb q) (n := n) (K := S 38 9) n v
    have e2 : decide (S 47 v = nI r + 1) = decide (cm (bt fa fb q) n (S 38 9) n v = r + 1) := by
      rw [hw v hv, nI_1, Bool.eq_iff_iff, decide_eq_true_eq, decide_eq_true_eq, nI_eq (by omega) (by omega)]
    have h24 : S 24 v = bif mov (S 47) v (nI r) then 0 else 1 := U.b24 hv
    rw [e2]
    unfold drp
    rw [h24, co_mov hn hw (show r < 1000000 by omega) hv, U.2.2.2.2.1]
    by_cases c : cm (bt fa fb q) n (S 38 9) n v ≠ 0 ∧ cm (bt fa fb q) n (S 38 9) n v ≤ r
    · rw [decide_eq_true c, decide_eq_false (show ¬ cm (bt fa fb q) n (S 38 9) n v = r + 1 by omega)]
      rfl
    · rw [decide_eq_false c]
      show (decide ((1 : Int32) = 1) && _) = _
      rw [decide_eq_true rfl, Bool.true_and]
      have hrn : r < n := by
        rcases Nat.lt_or_ge r n with h | h
        · exact h
        · have := c3 (by omega) v hv
          omega
      rw [Bool.eq_iff_iff, decide_eq_true_eq, decide_eq_true_eq]
      exact co_drop hn hw R.nb hrn hv (fun u hu => U.b24 hu) (by omega)
  | 7, _, U, hl => exact congrArg (fun x => decide (x = (0 : Int32))) hl
  | k + 8, hk, _, _ => exact absurd hk (by omega)
/-- rounds are few -/
theorem few (R : RelN S n q fa fb) (U : RunR S n q fa fb k rt r) (hf : fns S n q fa fb rt k r = false) : r < 25 ∧ (k = 1 → r + 1 ≤ 12) := by
  have hn := R.1.1
  have hk := U.1
  have hr := U.2.1
  have I := U.di R
  have hF := U.stat.1
  have hd := U.2.2.2.2.2.2.2.2.2.2.2.1.2
  have some9 : k = 0 ∨ k = 1 ∨ k = 7 → ∃ v, v < n ∧ FR S n q fa fb k rt r v = true := fun hk3 => by
    refine Decidable.byContradiction (fun c => ?_)
    have hz : ltI S n q fa fb rt k r = 0 := by
      have e : ltI S n q fa fb rt k r = smI (ltO S n q fa fb rt k r) n := by
        rcases hk3 with h | h | h <;> subst h <;> rfl
      rw [e]
      refine smI_0 (fun v hv => ?_)
      rw [fresh_lo R U hk3 hv, Bool.eq_false_iff.mpr (fun h => c ⟨v, hv, h⟩)]
      rfl
    have e : fns S n q fa fb rt k r = decide (ltI S n q fa fb rt k r = 0) := by
      rcases hk3 with h | h | h <;> subst h <;> rfl
    rw [e, hz] at hf
    exact absurd hf (by decide)
  match k, hk, U, hf, some9 with
  | 0, _, U, hf, some9 =>
    obtain ⟨v, hv, h⟩ := some9 (Or.inl rfl)
    refine ⟨?_, fun h => by cases h⟩
    cases r with
    | zero => omega
    | succ r =>
      have h' : (!decide (S 42 (lst (S 42) (S 43) n v (nI (r + 1))) = S 42 (lst (S 42) (S 43) n v (nI r)))) = true := h
      rw [Bool.not_eq_true', decide_eq_false_iff_not] at h'
      have := least_new (r := r) hn I hF hd hv (by omega) (fun e => h' (by rw [e]))
      omega
  | 1, _, U, hf, some9 =>
    obtain ⟨v, hv, h⟩ := some9 (Or.inr (Or.inl rfl))
    have hrt := (U.2.2.2.2.2.2.1 (by unfold rooted; omega)).1
    obtain ⟨W, hw, hW⟩ := R.ws
    cases r with
    | zero => exact ⟨by omega, fun _ => by omega⟩
    | succ r =>
      have h' : (!decide ((Hw fa fb (S 41) rt q n (r + 1) v).1 = (Hw fa fb (S 41) rt q n r v).1)) = true := h
      rw [Bool.not_eq_true', decide_eq_false_iff_not, Hw_0 R.1 hw hW, Hw_0 R.1 hw hW] at h'
      have hm := ww_m (W := W) (rt := rt) R.1 r v
      have hlt : ww fa fb W rt q (r + 1) v < ww fa fb W rt q r v := by
        rcases Nat.lt_or_ge (ww fa fb W rt q (r + 1) v) (ww fa fb W rt q r v) with c | c
        · exact c
        · exact absurd (by rw [Nat.le_antisymm hm c]) h'
      have := ways_new R.1 hW hrt hv hlt
      exact ⟨by omega, fun _ => by omega⟩
  | 2, _, U, hf, _ =>
    have hrt := (U.2.2.2.2.2.2.1 (by unfold rooted; omega)).1
    have T := U.tr R hrt
    obtain ⟨g, Hg, hg⟩ := U.stat.2.2.1 rfl
    refine ⟨?_, fun h => by cases h⟩
    have h' : (!decide (nI r ≤ S 45 rt)) = false := hf
    rw [Bool.not_eq_false', decide_eq_true_eq, (hg rt hrt).1, nI_leI (by omega) (by have := (hg rt hrt).2; omega)] at h'
    have := Hg.lt T hrt
    omega
  | 3, _, U, hf, _ =>
    have := col_hist U
    exact ⟨by omega, fun h => by cases h⟩
  | 4, _, U, hf, _ =>
    refine ⟨?_, fun h => by cases h⟩
    obtain ⟨m, hm⟩ := U.stat.2.2.2.1 rfl
    have h' : (!anyb (fun v => !mov (S 47) v (nI r)) n) = false := hf
    rw [Bool.not_eq_false'] at h'
    obtain ⟨v, hv, h⟩ := anyb_true.mp h'
    obtain ⟨q1, q2, q3, q4⟩ := hm v hv
    rw [mov_m q1 q2 (by omega) (by omega), Bool.not_eq_true', decide_eq_false_iff_not] at h
    omega
  | 5, _, U, hf, _ =>
    refine ⟨?_, fun h => by cases h⟩
    obtain ⟨m, P⟩ := U.stat.2.2.2.2.1 rfl
    have hc : ∃ e, e < q ∧ mov (S 47) (fa e) (nI r) = false ∧ mov (S 47) (fb e) (nI r) = false := by
      refine Decidable.byContradiction (fun c => ?_)
      have hz : opn fa fb (S 47) q (nI r) = 0 := by
        unfold opn
        rcases Nat.eq_zero_or_pos (cnt (fun e => !(mov (S 47) (fa e) (nI r) || mov (S 47) (fb e) (nI r))) q) with h | h
        · exact h
        · obtain ⟨e, he, h2⟩ := cnt_pos h
          rw [Bool.not_eq_true', Bool.or_eq_false_iff] at h2
          exact absurd ⟨e, he, h2⟩ c
      have h' : decide (2 * nI (opn fa fb (S 47) q (nI r)) = 0) = false := hf
      rw [hz] at h'
      exact absurd h' (by decide)
    obtain ⟨e, he, h1, h2⟩ := hc
    have := pairs_end R.1 P (by omega) he h1 h2
    have := R.1.2.1
    omega
  | 6, _, U, hf, _ =>
    refine ⟨?_, fun h => by cases h⟩
    have := (co_hist R U).2.1
    omega
  | 7, _, U, hf, some9 =>
    obtain ⟨v, hv, h⟩ := some9 (Or.inr (Or.inr rfl))
    have hrt := (U.2.2.2.2.2.2.1 (by unfold rooted; omega)).1
    refine ⟨?_, fun h => by cases h⟩
    rw [FR7 R U hv, decide_eq_true_eq] at h
    have := I.2.2.2.2.2 rt v hrt hv
    omega
  | k + 8, hk, _, _, _ => exact absurd hk (by omega)
end RND
