/-! WAYS -/
section WAYS
variable {n q rt : Nat} {fa fb : Nat → Nat} {w : Nat → Int32} {W : Nat → Nat}
theorem sh1_some {E : Nat → Nat → Option Nat} {v u e : Nat} {b0 w : Nat → Int32} {rr x : Int32} {t : T3} (h : E v u = some e) (hx : b0 u = x) : sh1 E v b0 w rr u t = bif decide (x = -1) then t else bif decide (t.1 = -1) || decide (x + w e < t.1) then (x + w e, nI u, rr) else t := by
  subst hx
  unfold sh1
  rw [h]
theorem mil_t {m : Nat} (h : 1000000 ≤ m) (hb : m < 2 ^ 31) : decide ((1000000 : Int32) ≤ nI m) = true := decide_eq_true (nI_le (a := 1000000) h hb)
theorem mil_f {m : Nat} (h : m < 1000000) : decide ((1000000 : Int32) ≤ nI m) = false := decide_eq_false (fun q => absurd ((nI_leI (a := 1000000) (by decide) (by omega)).mp q) (by omega))
def ww (fa fb : Nat → Nat) (W : Nat → Nat) (rt q : Nat) : Nat → Nat → Nat
  | 0, v => if v = rt then 0 else 1000000
  | r + 1, v => min 1000000 (itr (fun e b => if isf fa fb e v = true then min b (ww fa fb W rt q r (oth fa fb e v) + W e) else b) q (if v = rt then 0 else 1000000))
theorem minf {ok : Nat → Bool} {g : Nat → Nat} (b : Nat) : ∀ k, itr (fun e b => if ok e = true then min b (g e) else b) k b ≤ b ∧ (∀ e, e < k → ok e = true → itr (fun e b => if ok e = true then min b (g e) else b) k b ≤ g e) ∧ (itr (fun e b => if ok e = true then min b (g e) else b) k b = b ∨ ∃ e, e < k ∧ ok e = true ∧ itr (fun e b => if ok e = true then min b (g e) else b) k b = g e)
  | 0 => ⟨Nat.le_refl _, fun e h => absurd h (Nat.not_lt_zero _), Or.inl rfl⟩
  | k + 1 => by
    obtain ⟨h1, h2, h3⟩ := minf (ok := ok) (g := g) b k
    rw [itr_s]
    generalize itr (fun e b => if ok e = true then min b (g e) else b) k b = m at h1 h2 h3 ⊢
    by_cases c : ok k = true
    · rw [if_pos c]
      refine ⟨Nat.le_trans (Nat.min_le_left _ _) h1, fun e he ho => ?_, ?_⟩
      · by_cases e9 : e = k
        · rw [e9]; exact Nat.min_le_right _ _
        · exact Nat.le_trans (Nat.min_le_left _ _) (h2 e (by omega) ho)
      · rcases Nat.le_total m (g k) with c2 | c2
        · rw [Nat.min_eq_left c2]
          rcases h3 with h | ⟨e, he, ho, h⟩
          · exact Or.inl h
          · exact Or.inr ⟨e, by omega, ho, h⟩
        · rw [Nat.min_eq_right c2]
          exact Or.inr ⟨k, by omega, c, rfl⟩
    · rw [if_neg c]
      refine ⟨h1, fun e he ho => ?_, ?_⟩
      · by_cases e9 : e = k
        · rw [e9] at ho; exact absurd ho c
        · exact h2 e (by omega) ho
      · rcases h3 with h | ⟨e, he, ho, h⟩
        · exact Or.inl h
        · exact Or.inr ⟨e, by omega, ho, h⟩
theorem isf_bt (G : GR n q fa fb) {e v : Nat} (he : e < q) (h : isf fa fb e v = true) : bt fa fb q v (oth fa fb e v) = some e := by
  refine bt_of G he ?_
  unfold isf at h
  unfold oth
  by_cases c : fa e = v
  · rw [decide_eq_true c]
    exact Or.inl ⟨c, rfl⟩
  · rw [decide_eq_false c, Bool.false_or] at h
    rw [decide_eq_false c]
    exact Or.inr ⟨rfl, of_decide_eq_true h⟩
theorem bt_isf (G : GR n q fa fb) {e v u : Nat} (h : bt fa fb q v u = some e) : e < q ∧ isf fa fb e v = true ∧ oth fa fb e v = u := by
  obtain ⟨he, h2⟩ := bt_some h
  have hne := G.2.2.1 e he
  refine ⟨he, ?_, ?_⟩
  · unfold isf
    rw [Bool.or_eq_true, decide_eq_true_eq, decide_eq_true_eq]
    omega
  · unfold oth
    by_cases c : fa e = v
    · rw [decide_eq_true c]
      show fb e = u
      omega
    · rw [decide_eq_false c]
      show fa e = u
      omega
def ww0 (rt v : Nat) : Nat := if v = rt then 0 else 1000000
theorem ww_a : ∀ r v, ww fa fb W rt q r v ≤ 1000000
  | 0, v => by
    show (if v = rt then 0 else 1000000) ≤ _
    split <;> omega
  | r + 1, v => Nat.min_le_left _ _
theorem ww_b (r v : Nat) : ww fa fb W rt q (r + 1) v ≤ ww0 rt v := Nat.le_trans (Nat.min_le_right _ _) (minf (ok := fun e => isf fa fb e v) (g := fun e => ww fa fb W rt q r (oth fa fb e v) + W e) _ q).1
theorem ww_c (G : GR n q fa fb) {r v u e : Nat} (h : bt fa fb q v u = some e) : ww fa fb W rt q (r + 1) v ≤ ww fa fb W rt q r u + W e := by
  obtain ⟨he, h1, h2⟩ := bt_isf G h
  refine Nat.le_trans (Nat.min_le_right _ _) ?_
  have := (minf (ok := fun e => isf fa fb e v) (g := fun e => ww fa fb W rt q r (oth fa fb e v) + W e) (if v = rt then 0 else 1000000) q).2.1 e he h1
  rw [h2] at this
  exact this
theorem ww_d (G : GR n q fa fb) {r v : Nat} (h : ww fa fb W rt q (r + 1) v < 1000000) : ww fa fb W rt q (r + 1) v = ww0 rt v ∨ ∃ u e, u < n ∧ bt fa fb q v u = some e ∧ ww fa fb W rt q (r + 1) v = ww fa fb W rt q r u + W e := by
  have h3 := (minf (ok := fun e => isf fa fb e v) (g := fun e => ww fa fb W rt q r (oth fa fb e v) + W e) (if v = rt then 0 else 1000000) q).2.2
  have e0 : ww fa fb W rt q (r + 1) v = min 1000000 (itr (fun e b => if isf fa fb e v = true then min b (ww fa fb W rt q r (oth fa fb e v) + W e) else b) q (if v = rt then 0 else 1000000)) := rfl
  rw [e0] at h ⊢
  generalize itr (fun e b => if isf fa fb e v = true then min b (ww fa fb W rt q r (oth fa fb e v) + W e) else b) q (if v = rt then 0 else 1000000) = m at h h3 ⊢
  have hm : min 1000000 m = m := by
    have : ¬ 1000000 ≤ m := fun q => by rw [Nat.min_eq_left q] at h; omega
    exact Nat.min_eq_right (by omega)
  rw [hm]
  rcases h3 with h3 | ⟨e, he, ho, h3⟩
  · exact Or.inl h3
  · have hb := isf_bt G he ho
    exact Or.inr ⟨_, e, (bt_nd G (by rw [hb]; rfl)).2.1, hb, h3⟩
theorem ww_m (G : GR n q fa fb) : ∀ r v, ww fa fb W rt q (r + 1) v ≤ ww fa fb W rt q r v
  | 0, v => ww_b 0 v
  | r + 1, v => by
    rcases Nat.lt_or_ge (ww fa fb W rt q (r + 1) v) 1000000 with h | h
    · rcases ww_d G h with e | ⟨u, e, hu, hb, e2⟩
      · rw [e]
        exact ww_b _ v
      · rw [e2]
        exact Nat.le_trans (ww_c G hb) (Nat.add_le_add_right (ww_m G r u) _)
    · exact Nat.le_trans (ww_a _ _) h
theorem ww_m0 (G : GR n q fa fb) : ∀ r v, ww fa fb W rt q r v ≤ ww0 rt v
  | 0, _ => Nat.le_refl _
  | r + 1, v => ww_b r v
theorem ww_mm (G : GR n q fa fb) (v r : Nat) : ∀ s, ww fa fb W rt q (r + s) v ≤ ww fa fb W rt q r v
  | 0 => Nat.le_refl _
  | s + 1 => Nat.le_trans (ww_m G (r + s) v) (ww_mm G v r s)
theorem ww_f (G : GR n q fa fb) (hW : ∀ e, e < q → 1 ≤ W e ∧ W e ≤ 999) : ∀ r v, ww fa fb W rt q r v < 1000000 → ww fa fb W rt q r v ≤ 999 * r
  | 0, v, h => by
    have e : ww fa fb W rt q 0 v = if v = rt then 0 else 1000000 := rfl
    rw [e] at h ⊢
    split at h <;> first | omega | (rw [if_pos (by assumption)]; omega)
  | r + 1, v, h => by
    rcases ww_d G h with e | ⟨u, e, hu, hb, e2⟩
    · rw [e] at h ⊢
      unfold ww0 at h ⊢
      split at h <;> first | omega | (rw [if_pos (by assumption)]; omega)
    · have := hW e (bt_lt hb)
      have := ww_f G hW r u (by omega)
      omega
/-- the model's sums are these -/
theorem wv_ww (G : GR n q fa fb) (hw : ∀ e, e < q → w e = nI (W e)) (hW : ∀ e, e < q → 1 ≤ W e ∧ W e ≤ 999) : ∀ r v, wv fa fb w rt q r v = nI (ww fa fb W rt q r v)
  | 0, v => by
    show wy0 rt v = nI (if v = rt then 0 else 1000000)
    unfold wy0
    by_cases c : v = rt
    · rw [decide_eq_true c, if_pos c]; rfl
    · rw [decide_eq_false c, if_neg c]; rfl
  | r + 1, v => by
    have ih := wv_ww G hw hW r
    have key : ∀ k, k ≤ q → itr (fun e b => bif isf fa fb e v then (bif decide (b ≤ wv fa fb w rt q r (oth fa fb e v) + w e) then b else wv fa fb w rt q r (oth fa fb e v) + w e) else b) k (wy0 rt v) = nI (itr (fun e b => if isf fa fb e v = true then min b (ww fa fb W rt q r (oth fa fb e v) + W e) else b) k (if v = rt then 0 else 1000000)) ∧ itr (fun e b => if isf fa fb e v = true then min b (ww fa fb W rt q r (oth fa fb e v) + W e) else b) k (if v = rt then 0 else 1000000) ≤ 1000000 := by
      intro k
      induction k with
      | zero =>
        intro _
        refine ⟨?_, ?_⟩
        · show wy0 rt v = _
          unfold wy0
          by_cases c : v = rt
          · rw [decide_eq_true c]; show (0 : Int32) = nI (if v = rt then 0 else 1000000); rw [if_pos c]; rfl
          · rw [decide_eq_false c]; show (1000000 : Int32) = nI (if v = rt then 0 else 1000000); rw [if_neg c]; rfl
        · show (if v = rt then 0 else 1000000) ≤ 1000000
          split <;> omega
      | succ k ih2 =>
        intro hk
        obtain ⟨i1, i2⟩ := ih2 (by omega)
        rw [itr_s, itr_s, i1]
        generalize itr (fun e b => if isf fa fb e v = true then min b (ww fa fb W rt q r (oth fa fb e v) + W e) else b) k (if v = rt then 0 else 1000000) = m at i2 ⊢
        cases c : isf fa fb k v with
        | false => exact ⟨rfl, i2⟩
        | true =>
          have a := ww_a (fa := fa) (fb := fb) (W := W) (rt := rt) (q := q) r (oth fa fb k v)
          have b := hW k (by omega)
          rw [if_pos rfl, cond_true, ih, hw k (by omega), nI_add]
          refine ⟨?_, Nat.le_trans (Nat.min_le_left _ _) i2⟩
          by_cases c2 : m ≤ ww fa fb W rt q r (oth fa fb k v) + W k
          · rw [decide_eq_true (nI_le c2 (by omega)), Nat.min_eq_left c2]; rfl
          · rw [decide_eq_false (fun q => c2 ((nI_leI (by omega) (by omega)).mp q)), Nat.min_eq_right (by omega)]; rfl
    obtain ⟨k1, k2⟩ := key q (Nat.le_refl _)
    show cap _ = nI (min 1000000 _)
    rw [k1]
    generalize itr (fun e b => if isf fa fb e v = true then min b (ww fa fb W rt q r (oth fa fb e v) + W e) else b) q (if v = rt then 0 else 1000000) = m at k2 ⊢
    unfold cap
    by_cases c : 1000000 ≤ m
    · rw [mil_t c (by omega), Nat.min_eq_left c]; rfl
    · rw [mil_f (by omega), Nat.min_eq_right (by omega)]; rfl
def Hw (fa fb : Nat → Nat) (w : Nat → Int32) (rt q n r v : Nat) : T3 := (hwy (bt fa fb q) (wv fa fb w rt q) w n v 0 r, hwy (bt fa fb q) (wv fa fb w rt q) w n v 1 r, hwy (bt fa fb q) (wv fa fb w rt q) w n v 2 r)
theorem Hw_0 (G : GR n q fa fb) (hw : ∀ e, e < q → w e = nI (W e)) (hW : ∀ e, e < q → 1 ≤ W e ∧ W e ≤ 999) (r v : Nat) : (Hw fa fb w rt q n r v).1 = if ww fa fb W rt q r v < 1000000 then nI (ww fa fb W rt q r v) else -1 := by
  show (bif decide (1000000 ≤ wv fa fb w rt q r v) then -1 else wv fa fb w rt q r v) = _
  rw [wv_ww G hw hW]
  have a := ww_a (fa := fa) (fb := fb) (W := W) (rt := rt) (q := q) r v
  by_cases c : ww fa fb W rt q r v < 1000000
  · rw [if_pos c, mil_f c]; rfl
  · rw [if_neg c, mil_t (by omega) (by omega)]; rfl
theorem ways_step (G : GR n q fa fb) (hw : ∀ e, e < q → w e = nI (W e)) (hW : ∀ e, e < q → 1 ≤ W e ∧ W e ≤ 999) {r v : Nat} (hr : r < 100) : itr (sh1 (bt fa fb q) v (fun u => (Hw fa fb w rt q n r u).1) w (nI (r + 1))) n (Hw fa fb w rt q n r v) = Hw fa fb w rt q n (r + 1) v := by
  have hf := fun u => ww_f (rt := rt) G hW r u
  have ha := fun u => ww_a (fa := fa) (fb := fb) (W := W) (rt := rt) (q := q) r u
  have h0 := fun u => Hw_0 (rt := rt) G hw hW r u
  have h := argmin (T := T3) (fun t => if t.1 = -1 then 1000000 else t.1.toInt) (fun u => ((ww fa fb W rt q r u + W ((bt fa fb q v u).getD 0) : Nat) : Int)) (fun u => (bt fa fb q v u).isSome && decide (ww fa fb W rt q r u < 1000000)) (fun u => (nI (ww fa fb W rt q r u + W ((bt fa fb q v u).getD 0)), nI u, nI (r + 1))) (sh1 (bt fa fb q) v (fun u => (Hw fa fb w rt q n r u).1) w (nI (r + 1))) (fun u t h1 h2 => by
      rw [Bool.and_eq_true, decide_eq_true_eq] at h1
      obtain ⟨e, he⟩ := Option.isSome_iff_exists.mp h1.1
      have hWe := hW e (bt_lt he)
      have hfu := hf u h1.2
      simp only [he, Option.getD_some] at h2 ⊢
      rw [sh1_some he ((h0 u).trans (if_pos h1.2)), hw e (bt_lt he), nI_add, decide_eq_false (fun q => neg1_nI _ (by omega) q.symm), cond_false]
      have : (decide (t.1 = -1) || decide (nI (ww fa fb W rt q r u + W e) < t.1)) = true := by
        rw [Bool.or_eq_true, decide_eq_true_eq, decide_eq_true_eq]
        by_cases c : t.1 = -1
        · exact Or.inl c
        · rw [if_neg c] at h2
          exact Or.inr (i32_lt.mpr (by rw [nI_toInt (by omega)]; exact h2))
      rw [this]
      rfl) (fun u t h => by
      cases he : bt fa fb q v u with
      | none => unfold sh1; rw [he]
      | some e =>
        have hWe := hW e (bt_lt he)
        simp only [he, Option.getD_some, Option.isSome_some, Bool.true_and, decide_eq_true_eq] at h ⊢
        by_cases c : ww fa fb W rt q r u < 1000000
        · have hfu := hf u c
          rw [sh1_some he ((h0 u).trans (if_pos c)), hw e (bt_lt he), nI_add, decide_eq_false (fun q => neg1_nI _ (by omega) q.symm), cond_false]
          have : (decide (t.1 = -1) || decide (nI (ww fa fb W rt q r u + W e) < t.1)) = false := by
            rw [Bool.or_eq_false_iff, decide_eq_false_iff_not, decide_eq_false_iff_not]
            refine ⟨fun q => h ⟨c, by rw [if_pos q]; omega⟩, fun q => ?_⟩
            by_cases c2 : t.1 = -1
            · exact h ⟨c, by rw [if_pos c2]; omega⟩
            · have := i32_lt.mp q
              rw [nI_toInt (by omega)] at this
              exact h ⟨c, by rw [if_neg c2]; exact this⟩
          rw [this]
          rfl
        · rw [sh1_some he ((h0 u).trans (if_neg c)), decide_eq_true rfl]
          rfl) (fun u hu => by
      rw [Bool.and_eq_true, decide_eq_true_eq] at hu
      obtain ⟨e, he⟩ := Option.isSome_iff_exists.mp hu.1
      have hWe := hW e (bt_lt he)
      have hfu := hf u hu.2
      simp only [he, Option.getD_some]
      rw [if_neg (fun q => neg1_nI _ (by omega) q.symm), nI_toInt (by omega)]) (Hw fa fb w rt q n r v) n
  have hcur : (if (Hw fa fb w rt q n r v).1 = -1 then (1000000 : Int) else (Hw fa fb w rt q n r v).1.toInt) = ((ww fa fb W rt q r v : Nat) : Int) := by
    rw [h0 v]
    have := ha v
    by_cases c : ww fa fb W rt q r v < 1000000
    · rw [if_pos c, if_neg (fun q => neg1_nI _ (by omega) q.symm), nI_toInt (by omega)]
    · rw [if_neg c, if_pos rfl]
      omega
  have hv := wv_ww (rt := rt) G hw hW
  rcases h with ⟨e, hm⟩ | ⟨u0, hu, ho, e, hl, hm, hb⟩
  · rw [e]
    have e9 : ww fa fb W rt q (r + 1) v = ww fa fb W rt q r v := by
      refine Nat.le_antisymm (ww_m G r v) ?_
      rcases Nat.lt_or_ge (ww fa fb W rt q (r + 1) v) 1000000 with c | c
      · rcases ww_d G c with e1 | ⟨u, e1, hu, hb, e2⟩
        · rw [e1]
          exact ww_m0 G r v
        · rw [e2]
          have := hm u hu (by rw [hb, Bool.and_eq_true, decide_eq_true_eq]; exact ⟨rfl, by omega⟩)
          simp only [hb, Option.getD_some] at this
          rw [hcur] at this
          omega
      · exact Nat.le_trans (ha v) c
    unfold Hw hwy
    simp only [lwy, hv, e9, decide_true, cond_true]
  · rw [e]
    rw [Bool.and_eq_true, decide_eq_true_eq] at ho
    obtain ⟨e0, he0⟩ := Option.isSome_iff_exists.mp ho.1
    have hWe := hW e0 (bt_lt he0)
    have hfu := hf u0 ho.2
    simp only [hcur, he0, Option.getD_some] at hl hm hb ⊢
    have e9 : ww fa fb W rt q (r + 1) v = ww fa fb W rt q r u0 + W e0 := by
      refine Nat.le_antisymm (ww_c G he0) ?_
      have c : ww fa fb W rt q (r + 1) v < 1000000 := by have := ww_c (W := W) (rt := rt) (r := r) G he0; omega
      rcases ww_d G c with e1 | ⟨u, e1, hu, hb1, e2⟩
      · rw [e1]
        have := ww_m0 (W := W) (rt := rt) G r v
        omega
      · rw [e2]
        have := hm u hu (by rw [hb1, Bool.and_eq_true, decide_eq_true_eq]; exact ⟨rfl, by omega⟩)
        simp only [hb1, Option.getD_some] at this
        omega
    have hlw : lwy (fun t => wv fa fb w rt q t v) (r + 1) = r + 1 := by
      show (bif decide (wv fa fb w rt q (r + 1) v = wv fa fb w rt q r v) then _ else _) = _
      have := ha v
      rw [hv, hv, decide_eq_false (fun q => absurd ((nI_eq (by omega) (by omega)).mp q) (by omega))]
      rfl
    unfold Hw hwy
    simp only [hlw]
    have hs0 : (bif decide (1000000 ≤ wv fa fb w rt q (r + 1) v) then -1 else wv fa fb w rt q (r + 1) v) = nI (ww fa fb W rt q r u0 + W e0) := by
      rw [hv, e9, mil_f (by omega)]
      rfl
    have hs1 : fst? (hwy1 (bt fa fb q) (wv fa fb w rt q) w v r) n = some u0 := by
      refine fst?_some ?_ (fun u hu2 => ?_) hu
      · unfold hwy1
        rw [bt_comm fa fb q u0 v, he0]
        show decide (_ = _) = true
        rw [hv, hv, hw e0 (bt_lt he0), nI_add, e9, decide_eq_true rfl]
      · unfold hwy1
        rw [bt_comm fa fb q u v]
        cases c : bt fa fb q v u with
        | none => rfl
        | some e1 =>
          show decide (_ = _) = false
          have hWe1 := hW e1 (bt_lt c)
          have hau := ha u
          rw [hv, hv, hw e1 (bt_lt c), nI_add, e9, decide_eq_false_iff_not]
          intro q9
          have q8 := (nI_eq (by omega) (by omega)).mp q9
          by_cases c2 : ww fa fb W rt q r u < 1000000
          · have := hb u hu2 (by rw [c, Bool.and_eq_true, decide_eq_true_eq]; exact ⟨rfl, c2⟩)
            simp only [c, Option.getD_some] at this
            omega
          · omega
    rw [hs0, hs1]
    rfl
/-- a change in round r needs r + 1 nodes -/
theorem ways_chain (G : GR n q fa fb) (hW : ∀ e, e < q → 1 ≤ W e ∧ W e ≤ 999) (hrt : rt < n) : ∀ r v, v < n → ww fa fb W rt q (r + 1) v < ww fa fb W rt q r v → ∃ f : Nat → Nat, f (r + 1) = v ∧ (∀ i, i ≤ r + 1 → f i < n) ∧ ∀ i, i < r + 1 → ww fa fb W rt q i (f i) < ww fa fb W rt q (i + 1) (f (i + 1))
  | 0, v, hv, h => by
    have a := ww_a (fa := fa) (fb := fb) (W := W) (rt := rt) (q := q) 0 v
    rcases ww_d G (show ww fa fb W rt q (0 + 1) v < 1000000 by omega) with e | ⟨u, e, hu, hb, e2⟩
    · have : ww fa fb W rt q 0 v = ww0 rt v := rfl
      omega
    · have hWe := hW e (bt_lt hb)
      refine ⟨fun i => if i = 0 then u else v, rfl, fun i hi => ?_, fun i hi => ?_⟩
      · show (if i = 0 then u else v) < n
        split <;> assumption
      · have : i = 0 := by omega
        subst this
        show ww fa fb W rt q 0 u < ww fa fb W rt q (0 + 1) v
        omega
  | r + 1, v, hv, h => by
    have a := ww_a (fa := fa) (fb := fb) (W := W) (rt := rt) (q := q) (r + 1) v
    rcases ww_d G (show ww fa fb W rt q (r + 1 + 1) v < 1000000 by omega) with e | ⟨u, e, hu, hb, e2⟩
    · have := ww_m0 (W := W) (rt := rt) G (r + 1) v
      omega
    · have hWe := hW e (bt_lt hb)
      have hc := ww_c (W := W) (rt := rt) (r := r) G hb
      obtain ⟨f, h1, h2, h3⟩ := ways_chain G hW hrt r u hu (by omega)
      refine ⟨fun i => if i = r + 2 then v else f i, if_pos rfl, fun i hi => ?_, fun i hi => ?_⟩
      · show (if i = r + 2 then v else f i) < n
        split
        · exact hv
        · exact h2 i (by omega)
      · show ww fa fb W rt q i (if i = r + 2 then v else f i) < ww fa fb W rt q (i + 1) (if i + 1 = r + 2 then v else f (i + 1))
        rw [if_neg (by omega)]
        by_cases c : i + 1 = r + 2
        · have : i = r + 1 := by omega
          subst this
          rw [if_pos rfl, h1]
          omega
        · rw [if_neg c]
          exact h3 i (by omega)
theorem ways_new (G : GR n q fa fb) (hW : ∀ e, e < q → 1 ≤ W e ∧ W e ≤ 999) (hrt : rt < n) {r v : Nat} (hv : v < n) (h : ww fa fb W rt q (r + 1) v < ww fa fb W rt q r v) : r + 2 ≤ n := by
  obtain ⟨f, h1, h2, h3⟩ := ways_chain G hW hrt r v hv h
  have up : ∀ s i, i + s ≤ r + 1 → 0 < s → ww fa fb W rt q i (f i) < ww fa fb W rt q (i + s) (f (i + s)) := by
    intro s
    induction s with
    | zero => intro i _ h; exact absurd h (Nat.lt_irrefl _)
    | succ s ih =>
      intro i hi _
      have a := h3 (i + s) (by omega)
      rcases Nat.eq_zero_or_pos s with e | e
      · subst e
        exact a
      · have := ih i (by omega) e
        have e9 : i + (s + 1) = i + s + 1 := by omega
        rw [e9]
        omega
  refine pigeon n (r + 2) (fun i x => f i = x) (fun i hi => ⟨f i, h2 i (by omega), rfl⟩) (fun i j x hi hj h1 h2 => ?_)
  have key : ∀ i j, i < j → j < r + 2 → f i = f j → False := fun i j hij hj e => by
    have a := up (j - i) i (by omega) (by omega)
    have e9 : i + (j - i) = j := by omega
    rw [e9, e] at a
    have b := ww_mm (W := W) (rt := rt) G (f j) i (j - i)
    rw [e9] at b
    omega
  rcases Nat.lt_trichotomy i j with c | c | c
  · exact (key i j c hj (h1.trans h2.symm)).elim
  · exact c
  · exact (key j i c hi (h2.trans h1.symm)).elim
end WAYS
