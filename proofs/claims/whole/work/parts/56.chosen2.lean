/-! CHOSEN, round by round; letters over open edges -/
theorem mov_m {wh : Nat → Int32} {v m r : Nat} (h : wh v = nI m) (h1 : 1 ≤ m) (h2 : m < 1000) (hr : r < 1000000) : mov wh v (nI r) = decide (m ≤ r) := by
  unfold mov
  rw [h, decide_eq_false (nI_nle (by omega) (by omega)), Bool.not_false, Bool.true_and, Bool.eq_iff_iff, Bool.not_eq_true', decide_eq_false_iff_not, decide_eq_true_eq, nI_ltI (by omega) (by omega)]
  omega
theorem mov_0 {wh : Nat → Int32} {v r : Nat} (h : wh v = 0) : mov wh v (nI r) = false := by
  unfold mov
  rw [h, decide_eq_true (Int32.le_refl 0)]
  rfl
section CH2
variable {n : Nat} {A : Nat → Nat → Option Nat} {ids en wh : Nat → Int32} {m : Nat → Nat} {S : am_S0}
def Hc (en wh : Nat → Int32) (r v : Nat) : T3 := (bif mov wh v (nI r) then en v else 0, bif mov wh v (nI r) then wh v else 0, -1)
theorem chosen_step (hn : n ≤ 12) (hB : Nb A n) (hd : Dis ids n) (hm : ∀ v, v < n → wh v = nI (m v) ∧ 1 ≤ m v ∧ m v ≤ n ∧ ChS A n ids en m v) {r : Nat} (hr : r < 100000) (h24 : ∀ v, v < n → S 24 v = (Hc en wh r v).1) (h3 : ∀ v, v < n → S 3 v = ids v) (h16 : S 1 6 = nI (r + 1)) {v : Nat} (hv : v < n) : ph4 S A n v (Hc en wh r v) = Hc en wh (r + 1) v := by
  have mo : ∀ u s, u < n → s < 1000000 → mov wh u (nI s) = decide (m u ≤ s) := fun u s hu hs => mov_m (hm u hu).1 (hm u hu).2.1 (by have := (hm u hu).2.2.1; omega) hs
  have en12 : ∀ u, u < n → en u = 1 ∨ en u = 2 := fun u hu => by
    rcases (hm u hu).2.2.2 with ⟨p, _⟩ | ⟨p, _⟩
    · exact Or.inr p
    · exact Or.inl p
  have op : ∀ u, u < n → (S 24 u = 0 ↔ r < m u) := fun u hu => by
    rw [h24 u hu]
    show (bif mov wh u (nI r) then en u else 0) = 0 ↔ _
    rw [mo u r hu (by omega)]
    by_cases c : m u ≤ r
    · rw [decide_eq_true c]
      show en u = 0 ↔ _
      refine ⟨fun h => ?_, fun h => absurd h (by omega)⟩
      rcases en12 u hu with e | e <;> rw [e] at h <;> exact absurd h (by decide)
    · rw [decide_eq_false c]
      exact ⟨fun _ => by omega, fun _ => rfl⟩
  have hwin : ∀ u, u < n → r < m u → (win S A n u = true ↔ en u = 1 ∧ m u = r + 1) := fun u hu ho => by
    have h1 : win S A n u = true ↔ ∀ x, x < n → (A u x).isSome = true → r < m x → (ids x).toInt < (ids u).toInt := by
      unfold win
      rw [Bool.not_eq_true']
      constructor
      · intro h x hx ha hox
        cases e : decide (S 3 x < S 3 u) with
        | true =>
          have := i32_lt.mp (of_decide_eq_true e)
          rw [h3 x hx, h3 u hu] at this
          exact this
        | false =>
          have : anyb (fun x => (A u x).isSome && (decide (S 24 x = 0) && !decide (S 3 x < S 3 u))) n = true := anyb_true.mpr ⟨x, hx, by rw [ha, decide_eq_true ((op x hx).mpr hox), e]; rfl⟩
          rw [h] at this
          cases this
      · intro h
        refine anyb_false (fun x hx => ?_)
        cases ha : (A u x).isSome with
        | false => rfl
        | true =>
          by_cases c : S 24 x = 0
          · rw [decide_eq_true c, decide_eq_true (show S 3 x < S 3 u from i32_lt.mpr (by rw [h3 x hx, h3 u hu]; exact h x hx ha ((op x hx).mp c)))]
            rfl
          · rw [decide_eq_false c]
            rfl
    rw [h1]
    obtain ⟨q1, q2, q3, q4⟩ := hm u hu
    constructor
    · intro h
      rcases q4 with ⟨p1, ⟨x, x1, x2, x3, x4, x5⟩, _⟩ | ⟨p1, p2, p3⟩
      · have := h x x1 x2 (by omega)
        omega
      · refine ⟨p1, ?_⟩
        rcases p3 with p3 | ⟨x, x1, x2, x3, x4⟩
        · omega
        · have : ¬ r < m x := fun c => by have := h x x1 x2 c; omega
          omega
    · intro ⟨e1, e2⟩ x hx ha hox
      rcases q4 with ⟨p1, _⟩ | ⟨p1, p2, p3⟩
      · rw [e1] at p1; exact absurd p1 (by decide)
      · rcases Int.lt_trichotomy (ids x).toInt (ids u).toInt with c | c | c
        · exact c
        · exact absurd (hd x u hx hu (i32_eq c)) (hB.1 u x ha).2.2.symm
        · have := (p2 x hx ha c).2
          omega
  have hHr : ∀ s, s < 1000000 → Hc en wh s v = (bif decide (m v ≤ s) then en v else 0, bif decide (m v ≤ s) then wh v else 0, -1) := fun s hs => by
    unfold Hc
    rw [mo v s hv hs]
  obtain ⟨q1, q2, q3, q4⟩ := hm v hv
  rw [hHr r (by omega), hHr (r + 1) (by omega)]
  unfold ph4
  by_cases c : r < m v
  · rw [decide_eq_true ((op v hv).mpr c), cond_true, decide_eq_false (show ¬ m v ≤ r by omega)]
    have hw := hwin v hv c
    cases e : win S A n v with
    | true =>
      obtain ⟨e1, e2⟩ := hw.mp e
      rw [decide_eq_true (show m v ≤ r + 1 by omega), e1, q1, e2, h16]
      rfl
    | false =>
      have nw : ¬ (en v = 1 ∧ m v = r + 1) := fun h => by rw [hw.mpr h] at e; cases e
      have hb : bes S A n v = true ↔ en v = 2 ∧ m v = r + 1 := by
        unfold bes
        rw [anyb_true]
        constructor
        · rintro ⟨x, hx, h⟩
          rw [Bool.and_eq_true, Bool.and_eq_true, decide_eq_true_eq] at h
          obtain ⟨ha, ho, hwx⟩ := h
          have hox := (op x hx).mp ho
          obtain ⟨x1, x2⟩ := (hwin x hx hox).mp hwx
          obtain ⟨_, _, _, qx⟩ := hm x hx
          rcases qx with ⟨p1, _⟩ | ⟨p1, p2, _⟩
          · rw [x1] at p1; exact absurd p1 (by decide)
          · have hlt : (ids v).toInt < (ids x).toInt := by
              rcases Int.lt_trichotomy (ids v).toInt (ids x).toInt with c2 | c2 | c2
              · exact c2
              · exact absurd (hd v x hv hx (i32_eq c2)) (hB.1 v x ha).2.2
              · have := (p2 v hv (by rw [hB.2]; exact ha) c2).2
                omega
            rcases q4 with ⟨p1', _, p3⟩ | ⟨p1', p2', _⟩
            · have := p3 x hx ha hlt x1
              exact ⟨p1', by omega⟩
            · have := (p2' x hx ha hlt).1
              rw [x1] at this
              exact absurd this (by decide)
        · rintro ⟨e1, e2⟩
          rcases q4 with ⟨p1, ⟨x, x1, x2, x3, x4, x5⟩, _⟩ | ⟨p1, _⟩
          · refine ⟨x, x1, ?_⟩
            rw [Bool.and_eq_true, Bool.and_eq_true, decide_eq_true_eq]
            exact ⟨x2, (op x x1).mpr (by omega), (hwin x x1 (by omega)).mpr ⟨x4, by omega⟩⟩
          · rw [e1] at p1; exact absurd p1 (by decide)
      cases e3 : bes S A n v with
      | true =>
        obtain ⟨e1, e2⟩ := hb.mp e3
        rw [decide_eq_true (show m v ≤ r + 1 by omega), e1, q1, e2, h16]
        rfl
      | false =>
        have nb : ¬ (en v = 2 ∧ m v = r + 1) := fun h => by rw [hb.mpr h] at e3; cases e3
        have : m v ≠ r + 1 := fun h => by
          rcases en12 v hv with e9 | e9
          · exact nw ⟨e9, h⟩
          · exact nb ⟨e9, h⟩
        rw [decide_eq_false (show ¬ m v ≤ r + 1 by omega)]
        rfl
  · rw [decide_eq_false (fun h => c ((op v hv).mp h)), cond_false, decide_eq_true (show m v ≤ r by omega), decide_eq_true (show m v ≤ r + 1 by omega)]
end CH2
/-- each open edge is seen from both its ends -/
theorem cnt_or {p p2 : Nat → Bool} : ∀ n, (∀ u, u < n → ¬ (p u = true ∧ p2 u = true)) → cnt (fun u => p u || p2 u) n = cnt p n + cnt p2 n
  | 0, _ => rfl
  | n + 1, h => by
    have ih := cnt_or (p := p) (p2 := p2) n (fun u hu => h u (by omega))
    have hn := h n (by omega)
    unfold cnt
    rw [ih]
    cases e1 : p n with
    | true =>
      cases e2 : p2 n with
      | true => exact absurd ⟨e1, e2⟩ hn
      | false => simp; omega
    | false =>
      cases e2 : p2 n with
      | true => simp; omega
      | false => simp
theorem cnt_one {x : Nat} {c : Bool} : ∀ n, cnt (fun u => decide (u = x) && c) n = if x < n ∧ c = true then 1 else 0
  | 0 => by rw [if_neg (by omega)]; rfl
  | n + 1 => by
    unfold cnt
    rw [cnt_one n]
    by_cases e : n = x
    · subst e
      rw [decide_eq_true rfl, if_neg (by omega)]
      cases c
      · rw [if_neg (by simp)]; rfl
      · rw [if_pos ⟨by omega, rfl⟩]; rfl
    · rw [decide_eq_false e]
      show (if x < n ∧ c = true then 1 else 0) = _
      by_cases c2 : x < n ∧ c = true
      · rw [if_pos c2, if_pos ⟨by omega, c2.2⟩]
      · rw [if_neg c2, if_neg (fun q => c2 ⟨by omega, q.2⟩)]
theorem sm_congr {f h : Nat → Nat} : ∀ n, (∀ v, v < n → f v = h v) → sm f n = sm h n
  | 0, _ => rfl
  | n + 1, e => by
    show sm f n + f n = sm h n + h n
    rw [sm_congr n (fun v hv => e v (by omega)), e n (by omega)]
theorem sm_add (f h : Nat → Nat) : ∀ n, sm (fun v => f v + h v) n = sm f n + sm h n
  | 0 => rfl
  | n + 1 => by
    show sm (fun v => f v + h v) n + (f n + h n) = sm f n + f n + (sm h n + h n)
    rw [sm_add f h n]
    omega
theorem sm_one {x : Nat} {c : Bool} : ∀ n, sm (fun v => if v = x ∧ c = true then 1 else 0) n = if x < n ∧ c = true then 1 else 0
  | 0 => by rw [if_neg (by omega)]; rfl
  | n + 1 => by
    show sm _ n + (if n = x ∧ c = true then 1 else 0) = _
    rw [sm_one n]
    by_cases e : n = x ∧ c = true
    · rw [if_pos e, if_neg (by omega), if_pos ⟨by omega, e.2⟩]
    · rw [if_neg e]
      by_cases c2 : x < n ∧ c = true
      · rw [if_pos c2, if_pos ⟨by omega, c2.2⟩]
      · rw [if_neg c2, if_neg (fun q => by
          by_cases c3 : n = x
          · exact e ⟨c3, q.2⟩
          · exact c2 ⟨by omega, q.2⟩)]
theorem bt_suc (fa fb : Nat → Nat) (q u w : Nat) : (bt fa fb (q + 1) u w).isSome = ((bt fa fb q u w).isSome || ((decide (fa q = u) && decide (fb q = w)) || (decide (fa q = w) && decide (fb q = u)))) := by
  show (match bt fa fb q u w with | some x => some x | none => bif _ then some q else none).isSome = _
  cases bt fa fb q u w with
  | some x => rfl
  | none =>
    show (bif ((decide (fa q = u) && decide (fb q = w)) || (decide (fa q = w) && decide (fb q = u))) then some q else none).isSome = _
    cases ((decide (fa q = u) && decide (fb q = w)) || (decide (fa q = w) && decide (fb q = u))) <;> rfl
theorem GR.le {n q q2 : Nat} {fa fb : Nat → Nat} (G : GR n q fa fb) (h : q2 ≤ q) : GR n q2 fa fb := ⟨G.1, by have := G.2.1; omega, fun e he => G.2.2.1 e (by omega), fun e f he hf => G.2.2.2 e f (by omega) (by omega)⟩
theorem dbl {n : Nat} {fa fb : Nat → Nat} (p : Nat → Bool) : ∀ q, GR n q fa fb → sm (fun v => cnt (fun u => (bt fa fb q v u).isSome && (p v && p u)) n) n = 2 * cnt (fun e => p (fa e) && p (fb e)) q
  | 0, _ => by
    rw [sm_congr n (h := fun _ => 0) (fun v _ => by
      rw [cnt_congr n (p := fun u => (bt fa fb 0 v u).isSome && (p v && p u)) (q := fun _ => false) (fun u _ => rfl)]
      have : ∀ n, cnt (fun _ => false) n = 0 := fun n => by induction n with
        | zero => rfl
        | succ n ih => unfold cnt; exact ih
      exact this n)]
    have : ∀ n, sm (fun _ => 0) n = 0 := fun n => by induction n with
      | zero => rfl
      | succ n ih => unfold sm; omega
    rw [this]
    rfl
  | q + 1, G => by
    have ih := dbl (fa := fa) (fb := fb) p q (G.le (by omega))
    have hq := G.2.2.1 q (by omega)
    have none : ∀ u w, (fa q = u ∧ fb q = w ∨ fa q = w ∧ fb q = u) → (bt fa fb q u w).isSome = false := fun u w h => by
      cases e : bt fa fb q u w with
      | none => rfl
      | some f =>
        obtain ⟨hf, h2⟩ := bt_some e
        have := G.2.2.2 f q (by omega) (by omega) (by omega)
        omega
    have step : ∀ v, v < n → cnt (fun u => (bt fa fb (q + 1) v u).isSome && (p v && p u)) n = cnt (fun u => (bt fa fb q v u).isSome && (p v && p u)) n + ((if v = fa q ∧ (p (fa q) && p (fb q)) = true then 1 else 0) + (if v = fb q ∧ (p (fa q) && p (fb q)) = true then 1 else 0)) := fun v hv => by
      have e1 : cnt (fun u => (bt fa fb (q + 1) v u).isSome && (p v && p u)) n = cnt (fun u => ((bt fa fb q v u).isSome && (p v && p u)) || ((decide (u = fb q) && (decide (v = fa q) && (p (fa q) && p (fb q)))) || (decide (u = fa q) && (decide (v = fb q) && (p (fa q) && p (fb q)))))) n := by
        refine cnt_congr n (fun u _ => ?_)
        rw [bt_suc]
        by_cases c1 : fa q = v ∧ fb q = u
        · rw [decide_eq_true c1.1, decide_eq_true c1.2, decide_eq_true c1.1.symm, decide_eq_true c1.2.symm, none v u (Or.inl c1), c1.1, c1.2]
          cases p v <;> cases p u <;> simp
        · by_cases c2 : fa q = u ∧ fb q = v
          · rw [decide_eq_true c2.1, decide_eq_true c2.2, decide_eq_true c2.1.symm, decide_eq_true c2.2.symm, none v u (Or.inr c2), c2.1, c2.2]
            cases p v <;> cases p u <;> simp
          · have d1 : (decide (fa q = v) && decide (fb q = u)) = false := by rw [Bool.and_eq_false_iff, decide_eq_false_iff_not, decide_eq_false_iff_not]; omega
            have d2 : (decide (fa q = u) && decide (fb q = v)) = false := by rw [Bool.and_eq_false_iff, decide_eq_false_iff_not, decide_eq_false_iff_not]; omega
            have d3 : (decide (u = fb q) && (decide (v = fa q) && (p (fa q) && p (fb q)))) = false := by
              by_cases x : u = fb q
              · rw [decide_eq_false (show ¬ v = fa q by omega)]; simp
              · rw [decide_eq_false x]; rfl
            have d4 : (decide (u = fa q) && (decide (v = fb q) && (p (fa q) && p (fb q)))) = false := by
              by_cases x : u = fa q
              · rw [decide_eq_false (show ¬ v = fb q by omega)]; simp
              · rw [decide_eq_false x]; rfl
            rw [d1, d2, d3, d4]
            simp
      rw [e1, cnt_or n (fun u _ h => by
        have h1 := h.1
        have h2 := h.2
        simp only [Bool.and_eq_true, Bool.or_eq_true, decide_eq_true_eq] at h1 h2
        have := none v u (by omega)
        rw [h1.1] at this
        cases this), cnt_or n (fun u _ h => by
        have h1 := h.1
        have h2 := h.2
        simp only [Bool.and_eq_true, decide_eq_true_eq] at h1 h2
        omega), cnt_one, cnt_one]
      congr 2
      · by_cases x : v = fa q
        · rw [decide_eq_true x, Bool.true_and]
          by_cases y : (p (fa q) && p (fb q)) = true
          · rw [if_pos ⟨hq.2.1, y⟩, if_pos ⟨x, y⟩]
          · rw [if_neg (fun z => y z.2), if_neg (fun z => y z.2)]
        · rw [decide_eq_false x, Bool.false_and, if_neg (by simp), if_neg (fun z => x z.1)]
      · by_cases x : v = fb q
        · rw [decide_eq_true x, Bool.true_and]
          by_cases y : (p (fa q) && p (fb q)) = true
          · rw [if_pos ⟨hq.1, y⟩, if_pos ⟨x, y⟩]
          · rw [if_neg (fun z => y z.2), if_neg (fun z => y z.2)]
        · rw [decide_eq_false x, Bool.false_and, if_neg (by simp), if_neg (fun z => x z.1)]
    rw [sm_congr n step, sm_add, sm_add, ih, sm_one, sm_one]
    show _ = 2 * (bif p (fa q) && p (fb q) then cnt _ q + 1 else cnt _ q)
    cases e : (p (fa q) && p (fb q)) with
    | true => rw [if_pos ⟨hq.1, rfl⟩, if_pos ⟨hq.2.1, rfl⟩]; show _ = 2 * (cnt _ q + 1); omega
    | false => rw [if_neg (by simp), if_neg (by simp)]; rfl
/-- letters among those with y, told by open edges -/
theorem lam_opn {n q : Nat} {fa fb : Nat → Nat} (G : GR n q fa fb) {f : Nat → Int32} {y : Int32} {p : Nat → Bool} (h : ∀ v, v < n → (f v = y ↔ p v = true)) : lam (bt fa fb q) n f y = 2 * cnt (fun e => p (fa e) && p (fb e)) q := by
  rw [← dbl p q G]
  unfold lam
  refine sm_congr n (fun v hv => ?_)
  have hb : ∀ u, u < n → decide (f u = y) = p u := fun u hu => by rw [Bool.eq_iff_iff, decide_eq_true_eq]; exact h u hu
  by_cases c : f v = y
  · rw [if_pos c]
    unfold nbw
    refine cnt_congr n (fun u hu => ?_)
    rw [hb u hu, (h v hv).mp c, Bool.true_and]
  · rw [if_neg c]
    have : p v = false := by
      cases e : p v with
      | false => rfl
      | true => exact absurd ((h v hv).mpr e) c
    rw [this, cnt_congr n (q := fun _ => false) (fun u _ => by rw [Bool.false_and, Bool.and_false])]
    have : ∀ n, cnt (fun _ => false) n = 0 := fun n => by induction n with
      | zero => rfl
      | succ n ih => unfold cnt; exact ih
    rw [this]
