/-! the class's rounds, told by threes; LEAST -/
abbrev T3 : Type := Int32 × Int32 × Int32
def tri (S : am_S0) (v : Nat) : T3 := (S 20 v, S 21 v, S 22 v)
def bri (S : am_S0) (v : Nat) : T3 := (S 24 v, S 25 v, S 26 v)
theorem tri_itr {f : Nat → am_S0 → am_S0} {φ : Nat → T3 → T3} (S : am_S0) (hA : ∀ v S1, Ag S1 (f v S1)) (h1 : ∀ v S1, Ag S S1 → tri (f v S1) v = φ v (tri S1 v)) (h2 : ∀ v j S1, Ag S S1 → j ≠ v → tri (f v S1) j = tri S1 j) : ∀ n v, tri (itr f n S) v = if v < n then φ v (tri S v) else tri S v
  | 0, v => by rw [if_neg (Nat.not_lt_zero _)]; rfl
  | n + 1, v => by
    have ih := tri_itr S hA h1 h2 n
    have A : Ag S (itr f n S) := Ag.itr hA n S
    rw [itr_s]
    by_cases e : v = n
    · subst e
      rw [h1 v _ A, ih v, if_neg (Nat.lt_irrefl _), if_pos (by omega)]
    · rw [h2 n v _ A e, ih v]
      by_cases c : v < n
      · rw [if_pos c, if_pos (by omega)]
      · rw [if_neg c, if_neg (by omega)]
/-- the class's run behind r rounds: what is held, who is fresh -/
def Cls (S : am_S0) (n : Nat) (H : Nat → T3) (fr : Nat → Bool) (r : Nat) : Prop := (∀ v, v < n → tri S v = H v) ∧ (∀ v, v < n → bri S v = H v) ∧ (∀ v, v < n → S 27 v = bi (fr v)) ∧ S 1 6 = nI r
section PLY
variable {S : am_S0} {n k r : Nat} {E : Nat → Nat → Option Nat} {p : Nat → Option Nat} {H H2 : Nat → T3} {fr : Nat → Bool}
theorem tic_ne {j : Nat} (h : j ≠ 1) : tic S j = S j := am_up_ne _ _ h
theorem stl_o {j : Nat} (h : j ≠ 24 ∧ j ≠ 25 ∧ j ≠ 26) : stl S j = S j := by
  unfold stl
  rw [am_up_ne _ _ h.2.2, am_up_ne _ _ h.2.1, am_up_ne _ _ h.1]
theorem ply_o {j : Nat} (h : j ≠ 1 ∧ j ≠ 20 ∧ j ≠ 21 ∧ j ≠ 22 ∧ j ≠ 24 ∧ j ≠ 25 ∧ j ≠ 26 ∧ j ≠ 27) : ply k E n p S j = S j := by
  unfold ply
  rw [stl_o ⟨h.2.2.2.2.1, h.2.2.2.2.2.1, h.2.2.2.2.2.2.1⟩]
  unfold mrk adl
  rw [am_up_ne _ _ h.2.2.2.2.2.2.2, am_up_ne _ _ h.1, chA_ag k E n p (tic S) j h.2.1 h.2.2.1 h.2.2.2.1]
  exact tic_ne h.1
theorem ply_17 : ply k E n p S 1 7 = S 1 7 + ltr k E n (tic S) := by
  have e : chA k E n p (tic S) 1 = tic S 1 := chA_ag k E n p (tic S) 1 (by decide) (by decide) (by decide)
  show upd (chA k E n p (tic S) 1) 7 (chA k E n p (tic S) 1 7 + ltr k E n (tic S)) 7 = _
  rw [pk_us, e]
  rfl
theorem ply_cls (hn : n ≤ 12) (C : Cls S n H fr r) (h : ∀ v, v < n → tri (chA k E n p (tic S)) v = H2 v) : Cls (ply k E n p S) n H2 (fun v => !decide ((H2 v).1 = (H v).1)) (r + 1) := by
  have hag := chA_ag k E n p (tic S)
  have t1 : ∀ v, v < n → tri (ply k E n p S) v = H2 v := fun v hv => h v hv
  refine ⟨t1, fun v hv => ?_, fun v hv => ?_, ?_⟩
  · rw [← h v hv]
    show (pw 12 _ _ v, pw 12 _ _ v, pw 12 _ _ v) = _
    rw [pw_lt (by omega), pw_lt (by omega), pw_lt (by omega)]
    rfl
  · show pw n (fun v => bi (!decide (chA k E n p (tic S) 20 v = chA k E n p (tic S) 24 v))) _ v = _
    rw [pw_lt hv, hag 24 (by decide) (by decide) (by decide)]
    have a : chA k E n p (tic S) 20 v = (H2 v).1 := congrArg (fun t : T3 => t.1) (h v hv)
    have b : tic S 24 v = (H v).1 := congrArg (fun t : T3 => t.1) (C.2.1 v hv)
    rw [a, b]
  · have e : chA k E n p (tic S) 1 = tic S 1 := hag 1 (by decide) (by decide) (by decide)
    show upd (chA k E n p (tic S) 1) 7 (chA k E n p (tic S) 1 7 + ltr k E n (tic S)) 6 = _
    rw [pk_un (by decide), e]
    show S 1 6 + 1 = _
    rw [C.2.2.2, nI_1]
end PLY
/-- letters of those that are fresh -/
theorem smI_congr {f h : Nat → Int32} : ∀ {n : Nat}, (∀ v, v < n → f v = h v) → smI f n = smI h n
  | 0, _ => rfl
  | n + 1, e => by
    show smI f n + f n = smI h n + h n
    rw [smI_congr (n := n) (fun v hv => e v (by omega)), e n (by omega)]
theorem nI_sm (f : Nat → Nat) : ∀ n, nI (sm f n) = smI (fun v => nI (f v)) n
  | 0 => rfl
  | n + 1 => by
    show nI (sm f n + f n) = smI _ n + nI (f n)
    rw [← nI_add, nI_sm f n]
theorem dgr_deg {A : Nat → Nat → Option Nat} {n : Nat} (hB : Nb A n) (v : Nat) : dgr A n v = nI (deg A n v) := by
  unfold dgr deg
  rw [cnt_congr n (fun u _ => by rw [hB.2 u v])]
theorem frl_smI {A : Nat → Nat → Option Nat} {n : Nat} (hB : Nb A n) {f lo : Nat → Int32} {fr : Nat → Bool} (h : ∀ v, v < n → f v = bi (fr v)) (hl : ∀ v, v < n → lo v = bif fr v then dgr A n v else 0) : nI (frl A n f) = smI lo n := by
  unfold frl
  rw [nI_sm]
  refine smI_congr (fun v hv => ?_)
  rw [h v hv, hl v hv]
  cases fr v
  · rfl
  · rw [if_neg (by decide)]
    exact (dgr_deg hB v).symm
theorem smI_0 {f : Nat → Int32} : ∀ {n : Nat}, (∀ v, v < n → f v = 0) → smI f n = 0
  | 0, _ => rfl
  | n + 1, h => by
    show smI f n + f n = 0
    rw [smI_0 (n := n) (fun v hv => h v (by omega)), h n (by omega)]
    rfl
theorem i32_lt {x y : Int32} : x < y ↔ x.toInt < y.toInt := Int32.lt_iff_toInt_lt
theorem i32_le {x y : Int32} : x ≤ y ↔ x.toInt ≤ y.toInt := Int32.le_iff_toInt_le
theorem i32_eq {x y : Int32} (h : x.toInt = y.toInt) : x = y := Int32.toInt_inj.mp h
section LEAST
variable {n q : Nat} {A : Nat → Nat → Option Nat} {D : Nat → Nat → Nat} {ids F : Nat → Int32}
def Fis (n : Nat) (F : Nat → Int32) (D : Nat → Nat → Nat) : Prop := ∀ a b, a < n → b < n → F (12 * a + b) = nI (D a b)
theorem lst_spec (hn : n ≤ 12) (I : DI A n D) (hF : Fis n F D) {x r : Nat} (hx : x < n) (hr : r < 1000000) : lst ids F n x (nI r) < n ∧ D x (lst ids F n x (nI r)) ≤ r ∧ ∀ u, u < n → D x u ≤ r → (ids (lst ids F n x (nI r))).toInt ≤ (ids u).toInt := by
  have hok : ∀ u, u < n → ((!decide (nI r < F (12 * x + u))) = true ↔ D x u ≤ r) := fun u hu => by
    have := I.2.2.2.2.2 x u hx hu
    rw [hF x u hx hu, Bool.not_eq_true', decide_eq_false_iff_not, nI_ltI (by omega) (by omega)]
    omega
  have h := argmin (T := Nat) (fun w => (ids w).toInt) (fun u => (ids u).toInt) (fun u => !decide (nI r < F (12 * x + u))) (fun u => u) (lst1 ids F x (nI r)) (fun u t h1 h2 => by
      unfold lst1
      rw [h1, decide_eq_false (fun q => absurd (i32_le.mp q) (by omega))]
      rfl) (fun u t h => by
      unfold lst1
      cases e : (!decide (nI r < F (12 * x + u))) with
      | false => rfl
      | true =>
        rw [decide_eq_true (i32_le.mpr (by have : ¬ (ids u).toInt < (ids t).toInt := fun q => h ⟨e, q⟩; omega))]
        rfl) (fun u _ => rfl) x n
  unfold lst
  rcases h with ⟨e, ha⟩ | ⟨u0, hu, ho, e, hl, ha, _⟩
  · rw [e]
    exact ⟨hx, by rw [I.1 x hx]; omega, fun u hu hd => ha u hu ((hok u hu).mpr hd)⟩
  · rw [e]
    exact ⟨hu, (hok u0 hu).mp ho, fun u hu hd => ha u hu ((hok u hu).mpr hd)⟩
theorem lst_uni (hd : Dis ids n) {x r l m : Nat} (h1 : l < n ∧ D x l ≤ r ∧ ∀ u, u < n → D x u ≤ r → (ids l).toInt ≤ (ids u).toInt) (h2 : m < n ∧ D x m ≤ r ∧ ∀ u, u < n → D x u ≤ r → (ids m).toInt ≤ (ids u).toInt) : l = m := by
  have a := h1.2.2 m h2.1 h2.2.1
  have b := h2.2.2 l h1.1 h1.2.1
  exact hd l m h1.1 h2.1 (i32_eq (by omega))
def mnr2 (A : Nat → Nat → Option Nat) (n : Nat) (f : Nat → Int32) (x t : Nat) : Option Nat := fst? (fun u => (A u x).isSome && decide (f (12 * u + t) = f (12 * x + t) - 1)) n
def Hl (A : Nat → Nat → Option Nat) (n : Nat) (ids F : Nat → Int32) (r v : Nat) : T3 := (ids (lst ids F n v (nI r)), F (12 * v + lst ids F n v (nI r)), em (mnr2 A n F v (lst ids F n v (nI r))))
def lt0 (A : Nat → Nat → Option Nat) (v : Nat) (b0 b1 : Nat → Int32) (u : Nat) (t : T3) : T3 := bif (A v u).isSome && decide (b0 u < t.1) then (b0 u, b1 u + 1, nI u) else t
theorem least_step (hn : n ≤ 12) (hB : Nb A n) (I : DI A n D) (hF : Fis n F D) (hd : Dis ids n) {r v : Nat} (hv : v < n) (hr : r < 100000) : itr (lt0 A v (fun u => (Hl A n ids F r u).1) (fun u => (Hl A n ids F r u).2.1)) n (Hl A n ids F r v) = Hl A n ids F (r + 1) v := by
  have sp := fun (x : Nat) (hx : x < n) => lst_spec (ids := ids) hn I hF hx (show r < 1000000 by omega)
  have sp1 := lst_spec (ids := ids) hn I hF hv (show r + 1 < 1000000 by omega)
  have h := argmin (T := T3) (fun t => t.1.toInt) (fun u => (ids (lst ids F n u (nI r))).toInt) (fun u => (A v u).isSome) (fun u => ((Hl A n ids F r u).1, (Hl A n ids F r u).2.1 + 1, nI u)) (lt0 A v (fun u => (Hl A n ids F r u).1) (fun u => (Hl A n ids F r u).2.1)) (fun u t h1 h2 => by
      show (bif (A v u).isSome && decide ((Hl A n ids F r u).1 < t.1) then _ else _) = _
      rw [h1, decide_eq_true (show (Hl A n ids F r u).1 < t.1 from i32_lt.mpr h2)]
      rfl) (fun u t h => by
      show (bif (A v u).isSome && decide ((Hl A n ids F r u).1 < t.1) then _ else _) = _
      cases e : (A v u).isSome with
      | false => rfl
      | true =>
        rw [decide_eq_false (show ¬ (Hl A n ids F r u).1 < t.1 from fun q => h ⟨e, i32_lt.mp q⟩)]
        rfl) (fun u _ => rfl) (Hl A n ids F r v) n
  -- a node that is far r + 1 is far r from some neighbour
  have hstep : ∀ u, u < n → D v u ≤ r + 1 → D v u ≤ r ∨ ∃ w, w < n ∧ (A v w).isSome = true ∧ D w u ≤ r := fun u hu h => by
    by_cases c : D v u ≤ r
    · exact Or.inl c
    · obtain ⟨w, hw, hd⟩ := I.2.2.2.2.1 v u r hv hu (by omega)
      exact Or.inr ⟨w, (hB.1 v w hw).2.1, hw, by omega⟩
  rcases h with ⟨e, ha⟩ | ⟨u0, hu, ho, e, hl, ha, hb⟩
  · rw [e]
    have : lst ids F n v (nI (r + 1)) = lst ids F n v (nI r) := by
      refine lst_uni hd sp1 ⟨(sp v hv).1, by have := (sp v hv).2.1; omega, fun u hu hdu => ?_⟩
      rcases hstep u hu hdu with c | ⟨w, hw, hw2, hw3⟩
      · exact (sp v hv).2.2 u hu c
      · have a := ha w hw hw2
        have b := (sp w hw).2.2 u hu hw3
        exact Int.le_trans a b
    unfold Hl
    rw [this]
  · rw [e]
    have s0 := sp u0 hu
    have sv := sp v hv
    have hl2 : (ids (lst ids F n u0 (nI r))).toInt < (ids (lst ids F n v (nI r))).toInt := hl
    have hbb : ∀ u, u < u0 → (A v u).isSome = true → (ids (lst ids F n u0 (nI r))).toInt < (ids (lst ids F n u (nI r))).toInt := hb
    have e0 : lst ids F n v (nI (r + 1)) = lst ids F n u0 (nI r) := by
      refine lst_uni hd sp1 ⟨s0.1, ?_, fun u hu hdu => ?_⟩
      · have := I.2.2.2.1 v u0 (lst ids F n u0 (nI r)) s0.1 ho
        omega
      · rcases hstep u hu hdu with c | ⟨w, hw, hw2, hw3⟩
        · have := sv.2.2 u hu c
          omega
        · have a : (ids (lst ids F n u0 (nI r))).toInt ≤ (ids (lst ids F n w (nI r))).toInt := ha w hw hw2
          have b := (sp w hw).2.2 u hu hw3
          exact Int.le_trans a b
    have d1 : ¬ D v (lst ids F n u0 (nI r)) ≤ r := fun q => by
      have := sv.2.2 _ s0.1 q
      omega
    have d2 := I.2.2.2.1 v u0 (lst ids F n u0 (nI r)) s0.1 ho
    have d3 : D u0 (lst ids F n u0 (nI r)) = r := by have := s0.2.1; omega
    have d4 : D v (lst ids F n u0 (nI r)) = r + 1 := by omega
    unfold Hl
    rw [e0]
    simp only [hF u0 _ hu s0.1, hF v _ hv s0.1, d3, d4, nI_1]
    have hm : mnr2 A n F v (lst ids F n u0 (nI r)) = some u0 := by
      unfold mnr2
      refine fst?_some ?_ (fun u hu2 => ?_) hu
      · rw [hB.2 u0 v, ho, hF u0 _ hu s0.1, hF v _ hv s0.1, d3, d4, nI_pred, decide_eq_true rfl]
        rfl
      · cases c : (A u v).isSome with
        | false => rfl
        | true =>
          rw [Bool.true_and, decide_eq_false_iff_not]
          have hun : u < n := by omega
          rw [hF u _ hun s0.1, hF v _ hv s0.1, d4, nI_pred]
          intro q
          have hq := (nI_eq (by have := I.2.2.2.2.2 u _ hun s0.1; omega) (by omega)).mp q
          have a := (sp u hun).2.2 _ s0.1 (by omega)
          have b := hbb u hu2 (by rw [hB.2]; exact c)
          omega
    rw [hm]
    rfl
/-- a change in round r + 1: something is r + 1 far -/
theorem least_new (hn : n ≤ 12) (I : DI A n D) (hF : Fis n F D) (hd : Dis ids n) {r v : Nat} (hv : v < n) (hr : r < 100000) (h : lst ids F n v (nI (r + 1)) ≠ lst ids F n v (nI r)) : r + 1 < n := by
  have s0 := lst_spec (ids := ids) hn I hF hv (show r < 1000000 by omega)
  have s1 := lst_spec (ids := ids) hn I hF hv (show r + 1 < 1000000 by omega)
  have : ¬ D v (lst ids F n v (nI (r + 1))) ≤ r := fun q => h (lst_uni hd ⟨s1.1, q, fun u hu hdu => s1.2.2 u hu (by omega)⟩ s0)
  have := I.2.2.2.2.2 v _ hv s1.1
  omega
end LEAST
