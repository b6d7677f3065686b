/-! SUMS, round by round -/
theorem smI_cnt (q : Nat → Bool) : ∀ n, smI (fun c => bif q c then 1 else 0) n = nI (cnt q n)
  | 0 => rfl
  | n + 1 => by
    show smI _ n + (bif q n then 1 else 0) = nI (bif q n then cnt q n + 1 else cnt q n)
    rw [smI_cnt q n]
    cases q n
    · exact Int32.add_zero _
    · exact nI_1 _
section SM2
variable {S : am_S0} {n rt : Nat} {E : Nat → Nat → Option Nat} {p pr : Nat → Option Nat} {rk g : Nat → Nat} {ids ht : Nat → Int32}
def ph2 (S : am_S0) (p : Nat → Option Nat) (k x : Nat) : T3 := (S 20 x + smI (fun c => bif due S c && decide (p c = some x) then S 24 c else 0) k, S 21 x - smI (fun c => bif due S c && decide (p c = some x) then 1 else 0) k, bif decide (x < k) && due S x then 1 else S 22 x)
theorem chg2_s (x : Nat) : ∀ k, tri (itr (chg2 p) k S) x = ph2 S p k x
  | 0 => by
    show (S 20 x, S 21 x, S 22 x) = (S 20 x + 0, S 21 x - 0, bif decide (x < 0) && due S x then 1 else S 22 x)
    rw [Int32.add_zero, Int32.sub_zero, decide_eq_false (Nat.not_lt_zero x)]
    rfl
  | k + 1 => by
    have A : Ag S (itr (chg2 p) k S) := Ag.itr (chg2_ag p) k S
    have ih := chg2_s x k
    rw [itr_s]
    generalize itr (chg2 p) k S = S1 at A ih ⊢
    have i0 : S1 20 x = S 20 x + smI (fun c => bif due S c && decide (p c = some x) then S 24 c else 0) k := congrArg (fun t : T3 => t.1) ih
    have i1 : S1 21 x = S 21 x - smI (fun c => bif due S c && decide (p c = some x) then 1 else 0) k := congrArg (fun t : T3 => t.2.1) ih
    have i2 : S1 22 x = bif decide (x < k) && due S x then 1 else S 22 x := congrArg (fun t : T3 => t.2.2) ih
    have hd : due S1 k = due S k := by
      unfold due
      rw [A 25 (by decide) (by decide) (by decide), A 26 (by decide) (by decide) (by decide)]
    have g2 : upd (S1 22) k 1 x = bif decide (x = k) then 1 else S1 22 x := by
      by_cases c : x = k
      · rw [c, pk_us, decide_eq_true rfl]; rfl
      · rw [pk_un c, decide_eq_false c]; rfl
    unfold chg2 ph2
    rw [hd]
    show _ = (S 20 x + (smI _ k + (bif due S k && decide (p k = some x) then S 24 k else 0)), S 21 x - (smI _ k + (bif due S k && decide (p k = some x) then 1 else 0)), _)
    cases e : due S k with
    | false =>
      have e2 : (decide (x < k + 1) && due S x) = (decide (x < k) && due S x) := by
        by_cases c : x = k
        · rw [c, e, Bool.and_false, Bool.and_false]
        · congr 1
          rw [Bool.eq_iff_iff, decide_eq_true_eq, decide_eq_true_eq]
          omega
      rw [e2, Bool.false_and, cond_false, cond_false, cond_false, Int32.add_zero, Int32.add_zero]
      exact ih
    | true =>
      have e2 : (bif decide (x < k + 1) && due S x then (1 : Int32) else S 22 x) = bif decide (x = k) then 1 else (bif decide (x < k) && due S x then 1 else S 22 x) := by
        by_cases c : x = k
        · rw [c, e, decide_eq_true (Nat.lt_succ_self k), decide_eq_true rfl]; rfl
        · rw [decide_eq_false c]
          have : decide (x < k + 1) = decide (x < k) := by rw [Bool.eq_iff_iff, decide_eq_true_eq, decide_eq_true_eq]; omega
          rw [this]
          rfl
      rw [e2, ← i2, Bool.true_and, cond_true]
      unfold hup
      cases ep : p k with
      | none =>
        rw [decide_eq_false (show ¬ (none : Option Nat) = some x by simp), cond_false, cond_false, Int32.add_zero, Int32.add_zero, ← i0, ← i1, ← g2]
        rfl
      | some u =>
        by_cases c : u = x
        · subst c
          rw [decide_eq_true rfl, cond_true, cond_true, ← Int32.add_assoc, ← Int32.sub_sub, ← i0, ← i1, ← g2]
          show (upd (S1 20) u (S1 20 u + S1 24 k) u, upd (S1 21) u (S1 21 u - 1) u, upd (S1 22) k 1 u) = _
          rw [pk_us, pk_us, A 24 (by decide) (by decide) (by decide)]
        · rw [decide_eq_false (fun q => c (Option.some.inj q)), cond_false, cond_false, Int32.add_zero, Int32.add_zero, ← i0, ← i1, ← g2]
          show (upd (S1 20) u (S1 20 u + S1 24 k) x, upd (S1 21) u (S1 21 u - 1) x, upd (S1 22) k 1 x) = _
          rw [pk_un (fun h => c h.symm), pk_un (fun h => c h.symm)]
theorem chA2 (x : Nat) : tri (chA 2 E n p S) x = ph2 S p n x := chg2_s x n
def H2 (pr : Nat → Option Nat) (ids ht : Nat → Int32) (n r v : Nat) : T3 := (hsm pr ids ht n v 0 (nI r), hsm pr ids ht n v 1 (nI r), hsm pr ids ht n v 2 (nI r))
theorem H2_is (hn : n ≤ 12) (T : Tr pr n rk) (hg : ∀ w, w < n → ht w = nI (g w) ∧ g w ≤ 40) {r v : Nat} (hr : r < 1000000) (hv : v < n) : H2 pr ids ht n r v = (ids v + smI (fun c => bif decide (pr c = some v) && decide (g c < r) then sUn pr ids n c else 0) n, smI (fun c => bif decide (pr c = some v) && decide (r ≤ g c) then 1 else 0) n, bif decide (r ≤ g v) then 0 else 1) := by
  have key : ∀ k, k ≤ n → itr (hs1 pr ids ht n v (nI r)) k (ids v, 0) = (ids v + smI (fun c => bif decide (pr c = some v) && decide (g c < r) then sUn pr ids n c else 0) k, smI (fun c => bif decide (pr c = some v) && decide (r ≤ g c) then 1 else 0) k) := by
    intro k
    induction k with
    | zero => intro _; show (ids v, (0 : Int32)) = (ids v + 0, 0); rw [Int32.add_zero]
    | succ k ih =>
      intro hk
      have hgk := hg k (by omega)
      rw [itr_s, ih (by omega)]
      unfold hs1
      show _ = (ids v + (smI _ k + (bif decide (pr k = some v) && decide (g k < r) then sUn pr ids n k else 0)), smI _ k + (bif decide (pr k = some v) && decide (r ≤ g k) then 1 else 0))
      have e1 : decide (em (pr k) = nI v) = decide (pr k = some v) := by
        rw [Bool.eq_iff_iff, decide_eq_true_eq, decide_eq_true_eq]
        exact em_inj (fun e he => by have := (T.2 k e (by omega) he).1; omega) (by omega)
      have e2 : decide (nI r < ht k + 1) = decide (r ≤ g k) := by
        rw [hgk.1, nI_1, Bool.eq_iff_iff, decide_eq_true_eq, decide_eq_true_eq, nI_ltI (by omega) (by omega)]
        omega
      have e3 : decide (g k < r) = !decide (r ≤ g k) := by
        rw [Bool.eq_iff_iff, decide_eq_true_eq, Bool.not_eq_true', decide_eq_false_iff_not]
        omega
      rw [e1, e2, e3]
      generalize smI (fun c => bif decide (pr c = some v) && decide (g c < r) then sUn pr ids n c else 0) k = X
      generalize smI (fun c => bif decide (pr c = some v) && decide (r ≤ g c) then 1 else 0) k = Y
      cases decide (pr k = some v)
      · show (ids v + X, Y) = (ids v + (X + 0), Y + 0)
        rw [Int32.add_zero, Int32.add_zero]
      · cases decide (r ≤ g k)
        · show (ids v + X + sUn pr ids n k, Y + 0) = (ids v + (X + sUn pr ids n k), Y + 0)
          rw [Int32.add_assoc]
        · show (ids v + X + 0, Y + 1) = (ids v + (X + 0), Y + 1)
          rw [Int32.add_zero, Int32.add_zero]
  unfold H2 hsm
  rw [key n (Nat.le_refl _)]
  have e4 : decide (nI r ≤ ht v) = decide (r ≤ g v) := by
    have := hg v hv
    rw [this.1, Bool.eq_iff_iff, decide_eq_true_eq, decide_eq_true_eq, nI_leI (by omega) (by omega)]
  simp only [e4]
theorem sums_due (hn : n ≤ 12) (T : Tr pr n rk) (Hg : Hgt pr n g) (hg : ∀ w, w < n → ht w = nI (g w) ∧ g w ≤ 40) {r : Nat} (hr : r < 100000) (hb : ∀ v, v < n → bri S v = H2 pr ids ht n r v) {v : Nat} (hv : v < n) : due S v = decide (g v = r) := by
  have h1 : S 25 v = nI (cnt (fun c => decide (pr c = some v) && decide (r ≤ g c)) n) := by
    have := congrArg (fun t : T3 => t.2.1) (hb v hv)
    rw [H2_is hn T hg (by omega) hv] at this
    exact this.trans (smI_cnt _ n)
  have h2 : S 26 v = bif decide (r ≤ g v) then 0 else 1 := by
    have := congrArg (fun t : T3 => t.2.2) (hb v hv)
    rw [H2_is hn T hg (by omega) hv] at this
    exact this
  unfold due
  rw [h1, h2]
  have hc := cnt_le (fun c => decide (pr c = some v) && decide (r ≤ g c)) n
  rw [Bool.eq_iff_iff, Bool.and_eq_true, decide_eq_true_eq, decide_eq_true_eq, decide_eq_true_eq, show (0 : Int32) = nI 0 from rfl, nI_eq (by omega) (by omega)]
  constructor
  · rintro ⟨a, b⟩
    have hle : r ≤ g v := by
      by_cases c : r ≤ g v
      · exact c
      · rw [decide_eq_false c] at b; exact absurd b (by decide)
    rcases Hg.ex T hv with e | ⟨c, hc1, hc2, hc3⟩
    · omega
    · have := cnt_0 a hc1
      rw [decide_eq_true hc2, Bool.true_and, decide_eq_false_iff_not] at this
      omega
  · intro e
    refine ⟨?_, by rw [decide_eq_true (show r ≤ g v by omega)]; rfl⟩
    rcases Nat.eq_zero_or_pos (cnt (fun c => decide (pr c = some v) && decide (r ≤ g c)) n) with h | h
    · exact h
    · obtain ⟨c, hc1, hc2⟩ := cnt_pos h
      rw [Bool.and_eq_true, decide_eq_true_eq, decide_eq_true_eq] at hc2
      have := Hg.ch T hc1 hc2.1
      omega
theorem sums_step (hn : n ≤ 12) (T : Tr pr n rk) (Hg : Hgt pr n g) (hg : ∀ w, w < n → ht w = nI (g w) ∧ g w ≤ 40) {r : Nat} (hr : r < 100000) (ht3 : ∀ v, v < n → tri S v = H2 pr ids ht n r v) (hb : ∀ v, v < n → bri S v = H2 pr ids ht n r v) {v : Nat} (hv : v < n) : ph2 S pr n v = H2 pr ids ht n (r + 1) v := by
  have hdue := fun c (hc : c < n) => sums_due hn T Hg hg hr hb hc
  have t := ht3 v hv
  rw [H2_is hn T hg (show r < 1000000 by omega) hv] at t
  have t0 : S 20 v = _ := congrArg (fun t : T3 => t.1) t
  have t1 : S 21 v = _ := congrArg (fun t : T3 => t.2.1) t
  have t2 : S 22 v = _ := congrArg (fun t : T3 => t.2.2) t
  rw [H2_is hn T hg (show r + 1 < 1000000 by omega) hv]
  unfold ph2
  -- what a child sends
  have hsend : ∀ c, c < n → g c = r → S 24 c = sUn pr ids n c := fun c hc e => by
    have := congrArg (fun t : T3 => t.1) (hb c hc)
    rw [H2_is hn T hg (show r < 1000000 by omega) hc] at this
    have this' : S 24 c = ids c + smI (fun d => bif decide (pr d = some c) && decide (g d < r) then sUn pr ids n d else 0) n := this
    rw [this', sUn_rec T hc]
    congr 1
    refine smI_congr (fun d hd => ?_)
    by_cases x : pr d = some c
    · have := Hg.ch T hd x
      rw [decide_eq_true x, decide_eq_true (show g d < r by omega)]
      rfl
    · rw [decide_eq_false x]
      rfl
  have s0 : S 20 v + smI (fun c => bif due S c && decide (pr c = some v) then S 24 c else 0) n = ids v + smI (fun c => bif decide (pr c = some v) && decide (g c < r + 1) then sUn pr ids n c else 0) n := by
    rw [t0, Int32.add_assoc, ← smI_add]
    congr 1
    refine smI_congr (fun c hc => ?_)
    rw [hdue c hc]
    by_cases x : pr c = some v
    · rw [decide_eq_true x]
      rcases Nat.lt_trichotomy (g c) r with y | y | y
      · rw [decide_eq_true y, decide_eq_false (show ¬ g c = r by omega), decide_eq_true (show g c < r + 1 by omega)]
        exact Int32.add_zero _
      · rw [decide_eq_false (show ¬ g c < r by omega), decide_eq_true y, decide_eq_true (show g c < r + 1 by omega), hsend c hc y]
        exact Int32.zero_add _
      · rw [decide_eq_false (show ¬ g c < r by omega), decide_eq_false (show ¬ g c = r by omega), decide_eq_false (show ¬ g c < r + 1 by omega)]
        rfl
    · rw [decide_eq_false x, Bool.and_false]
      rfl
  have s1 : S 21 v - smI (fun c => bif due S c && decide (pr c = some v) then 1 else 0) n = smI (fun c => bif decide (pr c = some v) && decide (r + 1 ≤ g c) then 1 else 0) n := by
    rw [t1]
    show smI (fun c => bif decide (pr c = some v) && decide (r ≤ g c) then 1 else 0) n - _ = _
    rw [smI_cnt, smI_cnt, smI_cnt]
    have e1 : cnt (fun c => decide (pr c = some v) && decide (r ≤ g c)) n = cnt (fun c => (due S c && decide (pr c = some v)) || (decide (pr c = some v) && decide (r + 1 ≤ g c))) n := cnt_congr n (fun c hc => by
      rw [hdue c hc]
      by_cases x : pr c = some v
      · rw [decide_eq_true x]
        rcases Nat.lt_trichotomy (g c) r with y | y | y
        · rw [decide_eq_false (show ¬ r ≤ g c by omega), decide_eq_false (show ¬ g c = r by omega), decide_eq_false (show ¬ r + 1 ≤ g c by omega)]; rfl
        · rw [decide_eq_true (show r ≤ g c by omega), decide_eq_true y]; rfl
        · rw [decide_eq_true (show r ≤ g c by omega), decide_eq_false (show ¬ g c = r by omega), decide_eq_true (show r + 1 ≤ g c by omega)]; rfl
      · rw [decide_eq_false x, Bool.and_false]; rfl)
    rw [e1, cnt_or n (fun c hc h => by
      simp only [hdue c hc, Bool.and_eq_true, decide_eq_true_eq] at h
      omega), pk_sub (Nat.le_add_right _ _), Nat.add_sub_cancel_left]
  have s2 : (bif decide (v < n) && due S v then (1 : Int32) else S 22 v) = bif decide (r + 1 ≤ g v) then 0 else 1 := by
    rw [decide_eq_true hv, hdue v hv, t2]
    show (bif true && decide (g v = r) then (1 : Int32) else bif decide (r ≤ g v) then 0 else 1) = _
    rcases Nat.lt_trichotomy (g v) r with y | y | y
    · rw [decide_eq_false (show ¬ g v = r by omega), decide_eq_false (show ¬ r ≤ g v by omega), decide_eq_false (show ¬ r + 1 ≤ g v by omega)]; rfl
    · rw [decide_eq_true y, decide_eq_false (show ¬ r + 1 ≤ g v by omega)]; rfl
    · rw [decide_eq_false (show ¬ g v = r by omega), decide_eq_true (show r ≤ g v by omega), decide_eq_true (show r + 1 ≤ g v by omega)]; rfl
  rw [s0, s1, s2]
/-- the children counted at first -/
theorem chd_cnt {f : Nat → Int32} {v : Nat} (h : f v = 0) : ∀ k, chd p k f v = nI (cnt (fun c => decide (p c = some v)) k)
  | 0 => h
  | k + 1 => by
    have ih := chd_cnt h k
    show (match p k with | none => chd p k f | some u => upd (chd p k f) u (chd p k f u + 1)) v = nI (bif decide (p k = some v) then cnt _ k + 1 else cnt _ k)
    cases e : p k with
    | none => rw [decide_eq_false (show ¬ (none : Option Nat) = some v by simp)]; exact ih
    | some u =>
      by_cases c : v = u
      · subst c
        rw [decide_eq_true rfl]
        show upd (chd p k f) v (chd p k f v + 1) v = nI (cnt _ k + 1)
        rw [pk_us, ih, nI_1]
      · rw [decide_eq_false (fun q => c (Option.some.inj q).symm)]
        show upd (chd p k f) u (chd p k f u + 1) v = _
        rw [pk_un c]
        exact ih
end SM2
