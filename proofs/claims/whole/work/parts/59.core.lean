/-! CORE -/
section CORE
variable {n : Nat} {A : Nat → Nat → Option Nat} {K : Int32} {S : am_S0} {wh : Nat → Int32}
def cm (A : Nat → Nat → Option Nat) (n : Nat) (K : Int32) : Nat → Nat → Nat
  | 0, _ => 0
  | k + 1, v => if cm A n K k v = 0 ∧ ¬ K ≤ nI (cnt (fun u => (A u v).isSome && decide (cm A n K k u = 0)) n) then k + 1 else cm A n K k v
theorem cm_le : ∀ k v, cm A n K k v ≤ k
  | 0, _ => Nat.le_refl _
  | k + 1, v => by
    have := cm_le k v
    show (if _ then _ else _) ≤ _
    split
    · exact Nat.le_refl _
    · exact Nat.le_succ_of_le this
theorem cm_st {k v : Nat} (h : cm A n K k v ≠ 0) : ∀ s, cm A n K (k + s) v = cm A n K k v
  | 0 => rfl
  | s + 1 => by
    have ih := cm_st h s
    show (if cm A n K (k + s) v = 0 ∧ _ then _ else cm A n K (k + s) v) = _
    rw [if_neg (fun q => h (by rw [← ih]; exact q.1)), ih]
theorem cm_lt {k v : Nat} (h : cm A n K k v = 0) : ∀ s, cm A n K (k + s) v = 0 ∨ k < cm A n K (k + s) v
  | 0 => Or.inl h
  | s + 1 => by
    show (if _ then k + s + 1 else cm A n K (k + s) v) = 0 ∨ k < (if _ then k + s + 1 else cm A n K (k + s) v)
    split
    · exact Or.inr (Nat.lt_succ_of_le (Nat.le_add_right k s))
    · exact cm_lt h s
/-- who is in behind r rounds, told by the end -/
theorem cm_in {r v : Nat} (hr : r ≤ n) : cm A n K r v = 0 ↔ cm A n K n v = 0 ∨ r < cm A n K n v := by
  have e : r + (n - r) = n := by omega
  constructor
  · intro h
    have := cm_lt h (n - r)
    rw [e] at this
    exact this
  · intro h
    refine Decidable.byContradiction (fun c => ?_)
    have a := cm_st c (n - r)
    rw [e] at a
    have b := cm_le (A := A) (n := n) (K := K) r v
    omega
theorem pel_in {F : Nat → Int32} {m : Nat → Nat} {r : Nat} (hr : r < 100) (hF : ∀ u, u < n → F u = nI (m u) ∧ m u ≤ r) : ∀ k, k ≤ n → ∀ v, v < n → itr (pel1 A n K (r + 1)) k F v = if v < k ∧ m v = 0 ∧ ¬ K ≤ nI (cnt (fun u => (A u v).isSome && decide (m u = 0)) n) then nI (r + 1) else nI (m v)
  | 0, _, v, hv => by rw [if_neg (by omega)]; exact (hF v hv).1
  | k + 1, hk, v, hv => by
    have ih := pel_in hr hF k (by omega)
    rw [itr_s]
    generalize itr (pel1 A n K (r + 1)) k F = C at ih ⊢
    unfold pel1
    by_cases e : v = k
    · subst e
      rw [pk_us]
      have hC : C v = nI (m v) := by rw [ih v hv, if_neg (by omega)]
      have hins : ins A C n v (nI (r + 1)) = cnt (fun u => (A u v).isSome && decide (m u = 0)) n := by
        unfold ins
        refine cnt_congr n (fun u hu => ?_)
        congr 1
        have hu2 := (hF u hu).2
        rw [ih u hu]
        by_cases c : u < v ∧ m u = 0 ∧ ¬ K ≤ nI (cnt (fun x => (A x u).isSome && decide (m x = 0)) n)
        · rw [if_pos c, decide_eq_true c.2.1, decide_eq_false (show ¬ nI (r + 1) < nI (r + 1) from nI_nlt (Nat.le_refl _) (by omega))]
          simp
        · rw [if_neg c]
          by_cases c2 : m u = 0
          · rw [c2]
            rfl
          · rw [decide_eq_false c2, decide_eq_false (nI_ne0 (by omega) (by omega)), decide_eq_true (nI_lt (show m u < r + 1 by omega) (by omega))]
            rfl
      rw [hins, hC]
      have hmv := (hF v hv).2
      by_cases c : m v = 0
      · rw [c]
        by_cases c2 : K ≤ nI (cnt (fun u => (A u v).isSome && decide (m u = 0)) n)
        · rw [decide_eq_true c2, if_neg (fun q => q.2.2 c2)]; rfl
        · rw [decide_eq_false c2, if_pos ⟨by omega, rfl, c2⟩]; rfl
      · rw [decide_eq_false (nI_ne0 (by omega) (by omega)), if_neg (fun q => c q.2.1)]; rfl
    · rw [pk_un e, ih v hv]
      by_cases c : v < k ∧ m v = 0 ∧ ¬ K ≤ nI (cnt (fun u => (A u v).isSome && decide (m u = 0)) n)
      · rw [if_pos c, if_pos ⟨by omega, c.2⟩]
      · rw [if_neg c, if_neg (fun q => c ⟨by omega, q.2⟩)]
theorem pel_cm (hn : n ≤ 12) (f : Nat → Int32) : ∀ k, k ≤ n → ∀ v, v < n → pel A n K k f v = nI (cm A n K k v)
  | 0, _, v, hv => (pw_lt hv : pw n (fun _ => 0) f v = 0)
  | k + 1, hk, v, hv => by
    have ih := pel_cm hn f k (by omega)
    show itr (pel1 A n K (k + 1)) n (pel A n K k f) v = _
    rw [pel_in (m := cm A n K k) (by omega) (fun u hu => ⟨ih u hu, cm_le k u⟩) n (Nat.le_refl _) v hv]
    show _ = nI (if _ then _ else _)
    by_cases c : cm A n K k v = 0 ∧ ¬ K ≤ nI (cnt (fun u => (A u v).isSome && decide (cm A n K k u = 0)) n)
    · rw [if_pos ⟨hv, c⟩, if_pos c]
    · rw [if_neg (fun q => c q.2), if_neg c]
def H6 (A : Nat → Nat → Option Nat) (n : Nat) (wh : Nat → Int32) (r v : Nat) : T3 := (bif mov wh v (nI r) then 0 else 1, bif mov wh v (nI r) then wh v else 0, nI (ins A wh n v (bif mov wh v (nI r) then wh v else nI r)))
section C2
theorem co_mov (hn : n ≤ 12) (hw : ∀ v, v < n → wh v = nI (cm A n K n v)) {r v : Nat} (hr : r < 1000000) (hv : v < n) : mov wh v (nI r) = decide (cm A n K n v ≠ 0 ∧ cm A n K n v ≤ r) := by
  have := cm_le (A := A) (n := n) (K := K) n v
  by_cases c : cm A n K n v = 0
  · rw [mov_0 (by rw [hw v hv, c]; rfl), decide_eq_false (fun q => q.1 c)]
  · rw [mov_m (hw v hv) (by omega) (by omega) hr, Bool.eq_iff_iff, decide_eq_true_eq, decide_eq_true_eq]
    omega
theorem co_ins (hn : n ≤ 12) (hw : ∀ v, v < n → wh v = nI (cm A n K n v)) {s v : Nat} (hs : s < 1000) : ins A wh n v (nI s) = cnt (fun u => (A u v).isSome && decide (cm A n K n u = 0 ∨ s ≤ cm A n K n u)) n := by
  unfold ins
  refine cnt_congr n (fun u hu => ?_)
  congr 1
  have := cm_le (A := A) (n := n) (K := K) n u
  rw [hw u hu, Bool.eq_iff_iff, Bool.or_eq_true, Bool.not_eq_true', decide_eq_true_eq, decide_eq_false_iff_not, decide_eq_true_eq, nI_ltI (by omega) (by omega), show (0 : Int32) = nI 0 from rfl, nI_eq (by omega) (by omega)]
  omega
theorem co_nbw (hn : n ≤ 12) (hw : ∀ v, v < n → wh v = nI (cm A n K n v)) (hB : Nb A n) {r v : Nat} (hr : r < 900) (h24 : ∀ u, u < n → S 24 u = (H6 A n wh r u).1) : nbw A n (S 24) v 1 = ins A wh n v (nI (r + 1)) := by
  rw [co_ins hn hw (by omega)]
  unfold nbw
  refine cnt_congr n (fun u hu => ?_)
  rw [hB.2 v u]
  congr 1
  rw [h24 u hu]
  show decide ((bif mov wh u (nI r) then (0 : Int32) else 1) = 1) = _
  rw [co_mov hn hw (by omega) hu]
  by_cases c : cm A n K n u ≠ 0 ∧ cm A n K n u ≤ r
  · rw [decide_eq_true c, cond_true, decide_eq_false (show ¬ (cm A n K n u = 0 ∨ r + 1 ≤ cm A n K n u) by omega)]
    rfl
  · rw [decide_eq_false c, cond_false, decide_eq_true (show cm A n K n u = 0 ∨ r + 1 ≤ cm A n K n u by omega)]
    rfl
/-- who drops in the next round -/
theorem co_drop (hn : n ≤ 12) (hw : ∀ v, v < n → wh v = nI (cm A n K n v)) (hB : Nb A n) {r v : Nat} (hr : r < n) (hv : v < n) (h24 : ∀ u, u < n → S 24 u = (H6 A n wh r u).1) (hin : cm A n K n v = 0 ∨ r < cm A n K n v) : nI (nbw A n (S 24) v 1) < K ↔ cm A n K n v = r + 1 := by
  have h0 : cm A n K r v = 0 := (cm_in (Nat.le_of_lt hr)).mpr hin
  have e1 : nbw A n (S 24) v 1 = cnt (fun u => (A u v).isSome && decide (cm A n K r u = 0)) n := by
    rw [co_nbw hn hw hB (by omega) h24, co_ins hn hw (by omega)]
    refine cnt_congr n (fun u hu => ?_)
    congr 1
    rw [Bool.eq_iff_iff, decide_eq_true_eq, decide_eq_true_eq, cm_in (Nat.le_of_lt hr)]
    omega
  rw [e1]
  have e2 : cm A n K (r + 1) v = if ¬ K ≤ nI (cnt (fun u => (A u v).isSome && decide (cm A n K r u = 0)) n) then r + 1 else 0 := by
    show (if cm A n K r v = 0 ∧ ¬ K ≤ _ then r + 1 else cm A n K r v) = _
    by_cases c : K ≤ nI (cnt (fun u => (A u v).isSome && decide (cm A n K r u = 0)) n)
    · rw [if_neg (fun q => q.2 c), if_neg (fun q => q c), h0]
    · rw [if_pos ⟨h0, c⟩, if_pos c]
  have e3 := cm_in (A := A) (K := K) (n := n) (v := v) (show r + 1 ≤ n by omega)
  rw [← Int32.not_le]
  constructor
  · intro c
    rw [if_pos c] at e2
    have : ¬ (cm A n K n v = 0 ∨ r + 1 < cm A n K n v) := fun q => by rw [e3.mpr q] at e2; omega
    omega
  · intro c q
    rw [if_neg (fun z => z q)] at e2
    have := e3.mp e2
    omega
theorem core_step (hn : n ≤ 12) (hw : ∀ v, v < n → wh v = nI (cm A n K n v)) (hB : Nb A n) {r : Nat} (hr : r < n) (h24 : ∀ v, v < n → S 24 v = (H6 A n wh r v).1) (h15 : S 1 5 = K) (h16 : S 1 6 = nI (r + 1)) {v : Nat} (hv : v < n) : ph6 S A n v (H6 A n wh r v) = H6 A n wh (r + 1) v := by
  have hm1 := co_mov hn hw (show r < 1000000 by omega) hv
  have hm2 := co_mov hn hw (show r + 1 < 1000000 by omega) hv
  have h1 : S 24 v = bif mov wh v (nI r) then 0 else 1 := h24 v hv
  unfold ph6
  rw [h1, h15, h16]
  by_cases c : cm A n K n v ≠ 0 ∧ cm A n K n v ≤ r
  · rw [hm1, decide_eq_true c, cond_true, decide_eq_false (show ¬ (0 : Int32) = 1 by decide), cond_false]
    unfold H6
    rw [hm1, hm2, decide_eq_true c, decide_eq_true (show cm A n K n v ≠ 0 ∧ cm A n K n v ≤ r + 1 by omega)]
    rfl
  · rw [hm1, decide_eq_false c, cond_false, decide_eq_true (show (1 : Int32) = 1 from rfl), cond_true]
    have hd := co_drop hn hw hB hr hv h24 (by omega)
    rw [co_nbw hn hw hB (by omega) h24] at hd ⊢
    by_cases c2 : cm A n K n v = r + 1
    · rw [decide_eq_true (hd.mpr c2), cond_true]
      unfold H6
      rw [hm2, decide_eq_true (show cm A n K n v ≠ 0 ∧ cm A n K n v ≤ r + 1 by omega)]
      simp only [cond_true]
      rw [hw v hv, c2]
    · rw [decide_eq_false (fun q => c2 (hd.mp q)), cond_false]
      unfold H6
      rw [hm1, hm2, decide_eq_false c, decide_eq_false (show ¬ (cm A n K n v ≠ 0 ∧ cm A n K n v ≤ r + 1) by omega)]
      rfl
end C2
end CORE
