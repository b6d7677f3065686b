/-! the constructors -/
def Z0 : am_S0 := fun _ _ => 0
def memN (c0 c1 : am_C) (S : am_S0) : am_M := [c0, c1, .inr (2, [.ref 3, .ref 4, .ref 5, .ref 18, .int (S 2 4), .int (S 2 5)]), .inl (0, 12, .inl (S 3)), .inl (0, 24, .inl (S 4)), .inl (2, 12, .inr fun j => if j < 12 then some (6 + j) else none), .inl (0, 12, .inl (S 6)), .inl (0, 12, .inl (S 7)), .inl (0, 12, .inl (S 8)), .inl (0, 12, .inl (S 9)), .inl (0, 12, .inl (S 10)), .inl (0, 12, .inl (S 11)), .inl (0, 12, .inl (S 12)), .inl (0, 12, .inl (S 13)), .inl (0, 12, .inl (S 14)), .inl (0, 12, .inl (S 15)), .inl (0, 12, .inl (S 16)), .inl (0, 12, .inl (S 17)), .inl (0, 12, .inl (S 18))]
def memC (c0 : am_C) (S : am_S0) : am_M := [c0, .inr (1, [.ref 2, .ref 19, .ref 23, .ref 27, .ref 28, .int (S 1 5), .int (S 1 6), .int (S 1 7)]), .inr (2, [.ref 3, .ref 4, .ref 5, .ref 18, .int (S 2 4), .int (S 2 5)]), .inl (0, 12, .inl (S 3)), .inl (0, 24, .inl (S 4)), .inl (2, 12, .inr fun j => if j < 12 then some (6 + j) else none), .inl (0, 12, .inl (S 6)), .inl (0, 12, .inl (S 7)), .inl (0, 12, .inl (S 8)), .inl (0, 12, .inl (S 9)), .inl (0, 12, .inl (S 10)), .inl (0, 12, .inl (S 11)), .inl (0, 12, .inl (S 12)), .inl (0, 12, .inl (S 13)), .inl (0, 12, .inl (S 14)), .inl (0, 12, .inl (S 15)), .inl (0, 12, .inl (S 16)), .inl (0, 12, .inl (S 17)), .inl (0, 12, .inl (S 18)), .inl (2, 3, .inr fun j => if j < 3 then some (20 + j) else none), .inl (0, 12, .inl (S 20)), .inl (0, 12, .inl (S 21)), .inl (0, 12, .inl (S 22)), .inl (2, 3, .inr fun j => if j < 3 then some (24 + j) else none), .inl (0, 12, .inl (S 24)), .inl (0, 12, .inl (S 25)), .inl (0, 12, .inl (S 26)), .inl (1, 12, .inl (S 27)), .inl (0, 12, .inl (S 28))]
def memB (ch : Option Nat) (S : am_S0) : am_M := [.inr (0, [.ref 1, .ref 29, am_ch ch, .int (S 0 3)]), .inr (1, [.ref 2, .ref 19, .ref 23, .ref 27, .ref 28, .int (S 1 5), .int (S 1 6), .int (S 1 7)]), .inr (2, [.ref 3, .ref 4, .ref 5, .ref 18, .int (S 2 4), .int (S 2 5)]), .inl (0, 12, .inl (S 3)), .inl (0, 24, .inl (S 4)), .inl (2, 12, .inr fun j => if j < 12 then some (6 + j) else none), .inl (0, 12, .inl (S 6)), .inl (0, 12, .inl (S 7)), .inl (0, 12, .inl (S 8)), .inl (0, 12, .inl (S 9)), .inl (0, 12, .inl (S 10)), .inl (0, 12, .inl (S 11)), .inl (0, 12, .inl (S 12)), .inl (0, 12, .inl (S 13)), .inl (0, 12, .inl (S 14)), .inl (0, 12, .inl (S 15)), .inl (0, 12, .inl (S 16)), .inl (0, 12, .inl (S 17)), .inl (0, 12, .inl (S 18)), .inl (2, 3, .inr fun j => if j < 3 then some (20 + j) else none), .inl (0, 12, .inl (S 20)), .inl (0, 12, .inl (S 21)), .inl (0, 12, .inl (S 22)), .inl (2, 3, .inr fun j => if j < 3 then some (24 + j) else none), .inl (0, 12, .inl (S 24)), .inl (0, 12, .inl (S 25)), .inl (0, 12, .inl (S 26)), .inl (1, 12, .inl (S 27)), .inl (0, 12, .inl (S 28)), .inl (3, 8, .inr fun j => if j < 8 then some (30 + j) else none), .inr (3, []), .inr (4, []), .inr (5, []), .inr (6, []), .inr (7, []), .inr (8, []), .inr (9, []), .inr (10, [])]
theorem memN_eb {c0 c1 : am_C} {S : am_S0} : ∀ v : Nat, v < 12 → (memN c0 c1 S)[6 + v]? = some (.inl (0, 12, .inl (S (6 + v))))
  | 0, _ | 1, _ | 2, _ | 3, _ | 4, _ | 5, _ | 6, _ | 7, _ | 8, _ | 9, _ | 10, _ | 11, _ => rfl
  | n + 12, h => absurd h (by omega)
theorem memN_eb_set {c0 c1 : am_C} {S : am_S0} {f : Nat → Int32} : ∀ v : Nat, v < 12 → (memN c0 c1 S).set (6 + v) (.inl (0, 12, .inl f)) = memN c0 c1 (am_up S (6 + v) f)
  | 0, _ | 1, _ | 2, _ | 3, _ | 4, _ | 5, _ | 6, _ | 7, _ | 8, _ | 9, _ | 10, _ | 11, _ => rfl
  | n + 12, h => absurd h (by omega)
theorem am_wk {g : am_G} {d d2 nc nc2 ns ns2 m i : Nat} {L : am_L} {st : List Value} {M : am_M} {K : am_K} (hd : d ≤ d2) (h1 : nc ≤ nc2) (h2 : ns ≤ ns2) (k : AW g d nc ns m i L st M K) : AW g d2 nc2 ns2 m i L st M K := by
  intro p e R s mid args below meth c H locs cells slots Q ls C g1 g2 g3 g4 hH hS hL hQ
  exact k p e R s mid args below meth c H locs cells slots Q ls C (by omega) (by omega) (by omega) (by omega) hH hS hL hQ
section CON
variable {g : am_G} {d : Nat} {c0 c1 : am_C} {S : am_S0}
theorem s_clearN (x : Int32) : AW g (d + 1) 0 0 5 0 (am_L0 5 [.ref 2, .int x]) [] (memN c0 c1 S) (am_is none (memN c0 c1 (itr clr1 12 (clr0 S x)))) := by
  refine am_aload_n rfl rfl rfl ?_
  refine am_iload_n rfl rfl ?_
  refine am_put rfl rfl (Nat.le_of_ble_eq_true rfl) rfl ?_
  refine am_aload_n rfl rfl rfl ?_
  refine am_iconst rfl ?_
  refine am_put rfl rfl (Nat.le_of_ble_eq_true rfl) rfl ?_
  refine am_iconst rfl ?_
  refine am_istore_n rfl ?_
  refine am_Meq (M' := memN c0 c1 (itr clr1 0 (clr0 S x))) rfl ?_
  show AW g (d + 1) 0 0 5 8 [some (.ref 2), some (.int x), some (.int (nI 0))] [] _ _
  refine am_for (12) (fun v => [some (.ref 2), some (.int x), some (.int (nI v))]) (fun v => memN c0 c1 (itr clr1 v (clr0 S x))) (fun v hv k => ?_) ?_ 12 0 (by omega)
  · rw [itr_s] at k
    generalize itr clr1 v (clr0 S x) = S1 at k ⊢
    refine am_iload_n rfl rfl ?_
    refine am_bipush rfl ?_
    refine am_icmp_ge rfl (fun h => absurd h (nI_ge hv (by decide))) (fun _ => ?_)
    refine am_aload_n rfl rfl rfl ?_
    refine am_get rfl rfl rfl ?_
    refine am_iload_n rfl rfl ?_
    refine am_iload_n rfl rfl ?_
    refine am_iconst rfl ?_
    refine am_iadd rfl ?_
    refine am_iast rfl rfl rfl hv (by decide) ?_
    refine am_Meq (M' := memN c0 c1 (am_up S1 3 (upd (S1 3) v (nI v + 1)))) rfl ?_
    refine am_aload_n rfl rfl rfl ?_
    refine am_get rfl rfl rfl ?_
    refine am_iload_n rfl rfl ?_
    refine am_aald rfl rfl (Or.inl rfl) rfl hv (by decide) (if_pos hv) ?_
    refine am_iconst rfl ?_
    refine am_Sx [.ref (6 + v), .int (-1)] rfl rfl rfl rfl (s_fill (d := d) (memN_eb v hv) (by decide) (-1)) ?_
    refine am_Meq (memN_eb_set v hv) ?_
    rw [am_up_ne _ _ (show 6 + v ≠ 3 by omega)]
    refine am_iinc rfl rfl ?_
    refine am_goto rfl ?_
    unfold clr1 at k
    simp only [nI_succ] at k
    exact k
  · refine am_iload_n rfl rfl ?_
    refine am_bipush rfl ?_
    refine am_icmp_ge rfl (fun _ => ?_) (fun h => absurd (nI_le (Nat.le_refl 12) (by decide)) h)
    exact am_return rfl ⟨rfl, rfl⟩
theorem k_alg8 {M : am_M} (o : Nat) : AW g (d + 1) 0 0 8 0 (am_L0 8 [.ref o]) [] M (am_is none M) := by
  refine am_aload_n rfl rfl rfl ?_
  refine am_cO rfl (by decide) ?_
  exact am_return rfl ⟨rfl, rfl⟩
theorem k_alg7 {M : am_M} (o : Nat) : AW g (d + 2) 0 0 7 0 (am_L0 7 [.ref o]) [] M (am_is none M) := by
  refine am_aload_n rfl rfl rfl ?_
  refine am_cN (nc := 0) (ns := 0) (nc' := 0) (ns' := 0) [] rfl rfl rfl (k_alg8 (d := d) o) ?_
  rintro _ _ ⟨rfl, rfl⟩ _
  exact am_return rfl ⟨rfl, rfl⟩
theorem k_alg9 {M : am_M} (o : Nat) : AW g (d + 2) 0 0 9 0 (am_L0 9 [.ref o]) [] M (am_is none M) := by
  refine am_aload_n rfl rfl rfl ?_
  refine am_cN (nc := 0) (ns := 0) (nc' := 0) (ns' := 0) [] rfl rfl rfl (k_alg8 (d := d) o) ?_
  rintro _ _ ⟨rfl, rfl⟩ _
  exact am_return rfl ⟨rfl, rfl⟩
theorem k_alg10 {M : am_M} (o : Nat) : AW g (d + 2) 0 0 10 0 (am_L0 10 [.ref o]) [] M (am_is none M) := by
  refine am_aload_n rfl rfl rfl ?_
  refine am_cN (nc := 0) (ns := 0) (nc' := 0) (ns' := 0) [] rfl rfl rfl (k_alg8 (d := d) o) ?_
  rintro _ _ ⟨rfl, rfl⟩ _
  exact am_return rfl ⟨rfl, rfl⟩
theorem k_alg11 {M : am_M} (o : Nat) : AW g (d + 2) 0 0 11 0 (am_L0 11 [.ref o]) [] M (am_is none M) := by
  refine am_aload_n rfl rfl rfl ?_
  refine am_cN (nc := 0) (ns := 0) (nc' := 0) (ns' := 0) [] rfl rfl rfl (k_alg8 (d := d) o) ?_
  rintro _ _ ⟨rfl, rfl⟩ _
  exact am_return rfl ⟨rfl, rfl⟩
theorem k_alg12 {M : am_M} (o : Nat) : AW g (d + 2) 0 0 12 0 (am_L0 12 [.ref o]) [] M (am_is none M) := by
  refine am_aload_n rfl rfl rfl ?_
  refine am_cN (nc := 0) (ns := 0) (nc' := 0) (ns' := 0) [] rfl rfl rfl (k_alg8 (d := d) o) ?_
  rintro _ _ ⟨rfl, rfl⟩ _
  exact am_return rfl ⟨rfl, rfl⟩
theorem k_alg13 {M : am_M} (o : Nat) : AW g (d + 2) 0 0 13 0 (am_L0 13 [.ref o]) [] M (am_is none M) := by
  refine am_aload_n rfl rfl rfl ?_
  refine am_cN (nc := 0) (ns := 0) (nc' := 0) (ns' := 0) [] rfl rfl rfl (k_alg8 (d := d) o) ?_
  rintro _ _ ⟨rfl, rfl⟩ _
  exact am_return rfl ⟨rfl, rfl⟩
theorem k_alg14 {M : am_M} (o : Nat) : AW g (d + 2) 0 0 14 0 (am_L0 14 [.ref o]) [] M (am_is none M) := by
  refine am_aload_n rfl rfl rfl ?_
  refine am_cN (nc := 0) (ns := 0) (nc' := 0) (ns' := 0) [] rfl rfl rfl (k_alg8 (d := d) o) ?_
  rintro _ _ ⟨rfl, rfl⟩ _
  exact am_return rfl ⟨rfl, rfl⟩
theorem k_alg15 {M : am_M} (o : Nat) : AW g (d + 2) 0 0 15 0 (am_L0 15 [.ref o]) [] M (am_is none M) := by
  refine am_aload_n rfl rfl rfl ?_
  refine am_cN (nc := 0) (ns := 0) (nc' := 0) (ns' := 0) [] rfl rfl rfl (k_alg8 (d := d) o) ?_
  rintro _ _ ⟨rfl, rfl⟩ _
  exact am_return rfl ⟨rfl, rfl⟩
theorem clr_out (k : Nat) (h : k < 2 ∨ 18 ≤ k) : itr clr1 12 (clr0 Z0 1) k = fun _ => 0 := by
  have key : ∀ v, v ≤ 12 → itr clr1 v (clr0 Z0 1) k = fun _ => 0 := by
    intro v
    induction v with
    | zero =>
      intro _
      show am_up Z0 2 _ k = _
      rw [am_up_ne _ _ (by omega)]
      rfl
    | succ v ih =>
      intro hv
      rw [itr_s]
      unfold clr1
      rw [am_up_ne _ _ (by omega), am_up_ne _ _ (by omega)]
      exact ih (by omega)
  exact key 12 (by omega)
theorem k_net : AW g (d + 2) 16 204 4 0 (am_L0 4 [.ref 2]) [] [c0, c1, .inr (2, [.null, .null, .null, .null, .int 0, .int 0])] (am_is none (memN c0 c1 (itr clr1 12 (clr0 Z0 1)))) := by
  refine am_aload_n rfl rfl rfl ?_
  refine am_cO rfl (by decide) ?_
  refine am_aload_n rfl rfl rfl ?_
  refine am_bipush rfl ?_
  refine am_newa (nc := 15) (ns := 192) (n := 12) rfl rfl (by decide) (Or.inl rfl) ?_
  refine am_put rfl rfl (Nat.le_of_ble_eq_true rfl) rfl ?_
  refine am_aload_n rfl rfl rfl ?_
  refine am_bipush rfl ?_
  refine am_newa (nc := 14) (ns := 168) (n := 24) rfl rfl (by decide) (Or.inl rfl) ?_
  refine am_put rfl rfl (Nat.le_of_ble_eq_true rfl) rfl ?_
  refine am_aload_n rfl rfl rfl ?_
  refine am_bipush rfl ?_
  refine am_bipush rfl ?_
  refine am_mna (nc := 1) (ns := 12) (N := 12) (k8 := 12) rfl rfl rfl (by decide) (by decide) ?_
  refine am_put rfl rfl (Nat.le_of_ble_eq_true rfl) rfl ?_
  refine am_aload_n rfl rfl rfl ?_
  refine am_bipush rfl ?_
  refine am_newa (nc := 0) (ns := 0) (n := 12) rfl rfl (by decide) (Or.inl rfl) ?_
  refine am_put rfl rfl (Nat.le_of_ble_eq_true rfl) rfl ?_
  refine am_Meq (M' := memN c0 c1 Z0) rfl ?_
  refine am_aload_n rfl rfl rfl ?_
  refine am_iconst rfl ?_
  refine am_Vx [.int 1] rfl rfl rfl rfl rfl rfl (s_clearN (d := d) 1) ?_
  exact am_return rfl ⟨rfl, rfl⟩
theorem k_course : AW g (d + 3) 27 312 3 0 (am_L0 3 [.ref 1]) [] [c0, .inr (1, [.null, .null, .null, .null, .null, .int 0, .int 0, .int 0])] (am_is none (memC c0 (itr clr1 12 (clr0 Z0 1)))) := by
  refine am_aload_n rfl rfl rfl ?_
  refine am_cO rfl (by decide) ?_
  refine am_aload_n rfl rfl rfl ?_
  refine am_new (nc := 26) (ns := 306) (n := 6) (fs := [.null, .null, .null, .null, .int 0, .int 0]) rfl rfl (fun j hj => by match j, hj with | 0, _ => rfl | 1, _ => rfl | 2, _ => rfl | 3, _ => rfl | 4, _ => rfl | 5, _ => rfl | j + 6, hj => exact absurd hj (by omega)) rfl ?_
  refine am_dup rfl rfl ?_
  refine am_cI (nc := 10) (ns := 102) (nc' := 16) (ns' := 204) [] rfl rfl rfl (k_net (d := d)) ?_
  rintro _ _ ⟨rfl, rfl⟩ _
  have h1c : itr clr1 12 (clr0 Z0 1) 1 = fun _ => 0 := clr_out 1 (by omega)
  have hz : ∀ k, 19 ≤ k → itr clr1 12 (clr0 Z0 1) k = fun _ => 0 := fun k hk => clr_out k (by omega)
  generalize itr clr1 12 (clr0 Z0 1) = S1 at hz h1c ⊢
  refine am_put rfl rfl (Nat.le_of_ble_eq_true rfl) rfl ?_
  refine am_aload_n rfl rfl rfl ?_
  refine am_iconst rfl ?_
  refine am_bipush rfl ?_
  refine am_mna (nc := 6) (ns := 63) (N := 3) (k8 := 12) rfl rfl rfl (by decide) (by decide) ?_
  refine am_put rfl rfl (Nat.le_of_ble_eq_true rfl) rfl ?_
  refine am_aload_n rfl rfl rfl ?_
  refine am_iconst rfl ?_
  refine am_bipush rfl ?_
  refine am_mna (nc := 2) (ns := 24) (N := 3) (k8 := 12) rfl rfl rfl (by decide) (by decide) ?_
  refine am_put rfl rfl (Nat.le_of_ble_eq_true rfl) rfl ?_
  refine am_aload_n rfl rfl rfl ?_
  refine am_bipush rfl ?_
  refine am_newa (nc := 1) (ns := 12) (n := 12) rfl rfl (by decide) (Or.inr rfl) ?_
  refine am_put rfl rfl (Nat.le_of_ble_eq_true rfl) rfl ?_
  refine am_aload_n rfl rfl rfl ?_
  refine am_bipush rfl ?_
  refine am_newa (nc := 0) (ns := 0) (n := 12) rfl rfl (by decide) (Or.inl rfl) ?_
  refine am_put rfl rfl (Nat.le_of_ble_eq_true rfl) rfl ?_
  refine am_return rfl ⟨rfl, ?_⟩
  unfold memC
  rw [hz 20 (by decide), hz 21 (by decide), hz 22 (by decide), hz 24 (by decide), hz 25 (by decide), hz 26 (by decide), hz 27 (by decide), hz 28 (by decide), h1c]
  rfl
theorem am_nrm {d nc ns m i : Nat} {L : am_L} {st st9 : List Value} {M M9 : am_M} {K : am_K} (h1 : st = st9) (h2 : M = M9) (k : AW g d nc ns m i L st9 M9 K) : AW g d nc ns m i L st M K := by
  subst h1
  subst h2
  exact k
def alF : Nat → Nat → Option Nat
  | 0 => fun _ => none
  | k + 1 => va_up (alF k) k (some (30 + k))
theorem alF_8 : alF 8 = fun j => if j < 8 then some (30 + j) else none := by
  funext j
  match j with
  | 0 | 1 | 2 | 3 | 4 | 5 | 6 | 7 => rfl
  | n + 8 =>
    rw [if_neg (by omega)]
    simp only [alF, va_up]
    rw [if_neg (by omega), if_neg (by omega), if_neg (by omega), if_neg (by omega), if_neg (by omega), if_neg (by omega), if_neg (by omega), if_neg (by omega)]
theorem k_bench : AW g (d + 4) 37 328 1 0 (am_L0 1 [.ref 0]) [] [.inr (0, [.null, .null, .null, .int 0])] (am_is none (memB none (itr clr1 12 (clr0 Z0 1)))) := by
  refine am_aload_n rfl rfl rfl ?_
  refine am_cO rfl (by decide) ?_
  refine am_aload_n rfl rfl rfl ?_
  refine am_new (nc := 36) (ns := 320) (n := 8) (fs := [.null, .null, .null, .null, .null, .int 0, .int 0, .int 0]) rfl rfl (fun j hj => by match j, hj with | 0, _ => rfl | 1, _ => rfl | 2, _ => rfl | 3, _ => rfl | 4, _ => rfl | 5, _ => rfl | 6, _ => rfl | 7, _ => rfl | j + 8, hj => exact absurd hj (by omega)) rfl ?_
  refine am_dup rfl rfl ?_
  refine am_cN (nc := 9) (ns := 8) (nc' := 27) (ns' := 312) [] rfl rfl rfl (k_course (d := d)) ?_
  rintro _ _ ⟨rfl, rfl⟩ _
  have h0c : itr clr1 12 (clr0 Z0 1) 0 = fun _ => 0 := clr_out 0 (by omega)
  generalize itr clr1 12 (clr0 Z0 1) = S1 at h0c ⊢
  refine am_put rfl rfl (Nat.le_of_ble_eq_true rfl) rfl ?_
  refine am_nrm (st9 := []) (M9 := memC (.inr (0, [.ref 1, .null, .null, .int 0])) S1) rfl rfl ?_
  refine am_aload_n rfl rfl rfl ?_
  refine am_bipush rfl ?_
  refine am_anew (nc := 8) (ns := 0) (n := 8) rfl rfl (by decide) ?_
  refine am_nrm (st9 := [.ref 29, .ref 0]) (M9 := memC (.inr (0, [.ref 1, .null, .null, .int 0])) S1 ++ [.inl (3, 8, .inr (alF 0))]) rfl rfl ?_
  refine am_dup rfl rfl ?_
  refine am_iconst rfl ?_
  refine am_new (nc := 7) (ns := 0) (n := 0) (fs := []) rfl rfl (fun j hj => by match j, hj with | j + 0, hj => exact absurd hj (by omega)) rfl ?_
  refine am_nrm (st9 := [.ref 30, .int 0, .ref 29, .ref 29, .ref 0]) (M9 := memC (.inr (0, [.ref 1, .null, .null, .int 0])) S1 ++ [.inl (3, 8, .inr (alF 0)), .inr (3, [])]) rfl rfl ?_
  refine am_dup rfl rfl ?_
  refine am_cN (nc := 7) (ns := 0) (nc' := 0) (ns' := 0) [] rfl rfl rfl (k_alg7 (d := d + 1) _) ?_
  rintro _ _ ⟨rfl, rfl⟩ _
  refine am_aast (k8 := 0) rfl rfl rfl (by decide) (by decide) rfl (by decide) (by decide) ?_
  refine am_nrm (st9 := [.ref 29, .ref 0]) (M9 := memC (.inr (0, [.ref 1, .null, .null, .int 0])) S1 ++ [.inl (3, 8, .inr (alF 1)), .inr (3, [])]) rfl rfl ?_
  refine am_dup rfl rfl ?_
  refine am_iconst rfl ?_
  refine am_new (nc := 6) (ns := 0) (n := 0) (fs := []) rfl rfl (fun j hj => by match j, hj with | j + 0, hj => exact absurd hj (by omega)) rfl ?_
  refine am_nrm (st9 := [.ref 31, .int 1, .ref 29, .ref 29, .ref 0]) (M9 := memC (.inr (0, [.ref 1, .null, .null, .int 0])) S1 ++ [.inl (3, 8, .inr (alF 1)), .inr (3, []), .inr (4, [])]) rfl rfl ?_
  refine am_dup rfl rfl ?_
  refine am_cN (nc := 6) (ns := 0) (nc' := 0) (ns' := 0) [] rfl rfl rfl (k_alg9 (d := d + 1) _) ?_
  rintro _ _ ⟨rfl, rfl⟩ _
  refine am_aast (k8 := 1) rfl rfl rfl (by decide) (by decide) rfl (by decide) (by decide) ?_
  refine am_nrm (st9 := [.ref 29, .ref 0]) (M9 := memC (.inr (0, [.ref 1, .null, .null, .int 0])) S1 ++ [.inl (3, 8, .inr (alF 2)), .inr (3, []), .inr (4, [])]) rfl rfl ?_
  refine am_dup rfl rfl ?_
  refine am_iconst rfl ?_
  refine am_new (nc := 5) (ns := 0) (n := 0) (fs := []) rfl rfl (fun j hj => by match j, hj with | j + 0, hj => exact absurd hj (by omega)) rfl ?_
  refine am_nrm (st9 := [.ref 32, .int 2, .ref 29, .ref 29, .ref 0]) (M9 := memC (.inr (0, [.ref 1, .null, .null, .int 0])) S1 ++ [.inl (3, 8, .inr (alF 2)), .inr (3, []), .inr (4, []), .inr (5, [])]) rfl rfl ?_
  refine am_dup rfl rfl ?_
  refine am_cN (nc := 5) (ns := 0) (nc' := 0) (ns' := 0) [] rfl rfl rfl (k_alg10 (d := d + 1) _) ?_
  rintro _ _ ⟨rfl, rfl⟩ _
  refine am_aast (k8 := 2) rfl rfl rfl (by decide) (by decide) rfl (by decide) (by decide) ?_
  refine am_nrm (st9 := [.ref 29, .ref 0]) (M9 := memC (.inr (0, [.ref 1, .null, .null, .int 0])) S1 ++ [.inl (3, 8, .inr (alF 3)), .inr (3, []), .inr (4, []), .inr (5, [])]) rfl rfl ?_
  refine am_dup rfl rfl ?_
  refine am_iconst rfl ?_
  refine am_new (nc := 4) (ns := 0) (n := 0) (fs := []) rfl rfl (fun j hj => by match j, hj with | j + 0, hj => exact absurd hj (by omega)) rfl ?_
  refine am_nrm (st9 := [.ref 33, .int 3, .ref 29, .ref 29, .ref 0]) (M9 := memC (.inr (0, [.ref 1, .null, .null, .int 0])) S1 ++ [.inl (3, 8, .inr (alF 3)), .inr (3, []), .inr (4, []), .inr (5, []), .inr (6, [])]) rfl rfl ?_
  refine am_dup rfl rfl ?_
  refine am_cN (nc := 4) (ns := 0) (nc' := 0) (ns' := 0) [] rfl rfl rfl (k_alg11 (d := d + 1) _) ?_
  rintro _ _ ⟨rfl, rfl⟩ _
  refine am_aast (k8 := 3) rfl rfl rfl (by decide) (by decide) rfl (by decide) (by decide) ?_
  refine am_nrm (st9 := [.ref 29, .ref 0]) (M9 := memC (.inr (0, [.ref 1, .null, .null, .int 0])) S1 ++ [.inl (3, 8, .inr (alF 4)), .inr (3, []), .inr (4, []), .inr (5, []), .inr (6, [])]) rfl rfl ?_
  refine am_dup rfl rfl ?_
  refine am_iconst rfl ?_
  refine am_new (nc := 3) (ns := 0) (n := 0) (fs := []) rfl rfl (fun j hj => by match j, hj with | j + 0, hj => exact absurd hj (by omega)) rfl ?_
  refine am_nrm (st9 := [.ref 34, .int 4, .ref 29, .ref 29, .ref 0]) (M9 := memC (.inr (0, [.ref 1, .null, .null, .int 0])) S1 ++ [.inl (3, 8, .inr (alF 4)), .inr (3, []), .inr (4, []), .inr (5, []), .inr (6, []), .inr (7, [])]) rfl rfl ?_
  refine am_dup rfl rfl ?_
  refine am_cN (nc := 3) (ns := 0) (nc' := 0) (ns' := 0) [] rfl rfl rfl (k_alg12 (d := d + 1) _) ?_
  rintro _ _ ⟨rfl, rfl⟩ _
  refine am_aast (k8 := 4) rfl rfl rfl (by decide) (by decide) rfl (by decide) (by decide) ?_
  refine am_nrm (st9 := [.ref 29, .ref 0]) (M9 := memC (.inr (0, [.ref 1, .null, .null, .int 0])) S1 ++ [.inl (3, 8, .inr (alF 5)), .inr (3, []), .inr (4, []), .inr (5, []), .inr (6, []), .inr (7, [])]) rfl rfl ?_
  refine am_dup rfl rfl ?_
  refine am_iconst rfl ?_
  refine am_new (nc := 2) (ns := 0) (n := 0) (fs := []) rfl rfl (fun j hj => by match j, hj with | j + 0, hj => exact absurd hj (by omega)) rfl ?_
  refine am_nrm (st9 := [.ref 35, .int 5, .ref 29, .ref 29, .ref 0]) (M9 := memC (.inr (0, [.ref 1, .null, .null, .int 0])) S1 ++ [.inl (3, 8, .inr (alF 5)), .inr (3, []), .inr (4, []), .inr (5, []), .inr (6, []), .inr (7, []), .inr (8, [])]) rfl rfl ?_
  refine am_dup rfl rfl ?_
  refine am_cN (nc := 2) (ns := 0) (nc' := 0) (ns' := 0) [] rfl rfl rfl (k_alg13 (d := d + 1) _) ?_
  rintro _ _ ⟨rfl, rfl⟩ _
  refine am_aast (k8 := 5) rfl rfl rfl (by decide) (by decide) rfl (by decide) (by decide) ?_
  refine am_nrm (st9 := [.ref 29, .ref 0]) (M9 := memC (.inr (0, [.ref 1, .null, .null, .int 0])) S1 ++ [.inl (3, 8, .inr (alF 6)), .inr (3, []), .inr (4, []), .inr (5, []), .inr (6, []), .inr (7, []), .inr (8, [])]) rfl rfl ?_
  refine am_dup rfl rfl ?_
  refine am_bipush rfl ?_
  refine am_new (nc := 1) (ns := 0) (n := 0) (fs := []) rfl rfl (fun j hj => by match j, hj with | j + 0, hj => exact absurd hj (by omega)) rfl ?_
  refine am_nrm (st9 := [.ref 36, .int 6, .ref 29, .ref 29, .ref 0]) (M9 := memC (.inr (0, [.ref 1, .null, .null, .int 0])) S1 ++ [.inl (3, 8, .inr (alF 6)), .inr (3, []), .inr (4, []), .inr (5, []), .inr (6, []), .inr (7, []), .inr (8, []), .inr (9, [])]) rfl rfl ?_
  refine am_dup rfl rfl ?_
  refine am_cN (nc := 1) (ns := 0) (nc' := 0) (ns' := 0) [] rfl rfl rfl (k_alg14 (d := d + 1) _) ?_
  rintro _ _ ⟨rfl, rfl⟩ _
  refine am_aast (k8 := 6) rfl rfl rfl (by decide) (by decide) rfl (by decide) (by decide) ?_
  refine am_nrm (st9 := [.ref 29, .ref 0]) (M9 := memC (.inr (0, [.ref 1, .null, .null, .int 0])) S1 ++ [.inl (3, 8, .inr (alF 7)), .inr (3, []), .inr (4, []), .inr (5, []), .inr (6, []), .inr (7, []), .inr (8, []), .inr (9, [])]) rfl rfl ?_
  refine am_dup rfl rfl ?_
  refine am_bipush rfl ?_
  refine am_new (nc := 0) (ns := 0) (n := 0) (fs := []) rfl rfl (fun j hj => by match j, hj with | j + 0, hj => exact absurd hj (by omega)) rfl ?_
  refine am_nrm (st9 := [.ref 37, .int 7, .ref 29, .ref 29, .ref 0]) (M9 := memC (.inr (0, [.ref 1, .null, .null, .int 0])) S1 ++ [.inl (3, 8, .inr (alF 7)), .inr (3, []), .inr (4, []), .inr (5, []), .inr (6, []), .inr (7, []), .inr (8, []), .inr (9, []), .inr (10, [])]) rfl rfl ?_
  refine am_dup rfl rfl ?_
  refine am_cN (nc := 0) (ns := 0) (nc' := 0) (ns' := 0) [] rfl rfl rfl (k_alg15 (d := d + 1) _) ?_
  rintro _ _ ⟨rfl, rfl⟩ _
  refine am_aast (k8 := 7) rfl rfl rfl (by decide) (by decide) rfl (by decide) (by decide) ?_
  refine am_nrm (st9 := [.ref 29, .ref 0]) (M9 := memC (.inr (0, [.ref 1, .null, .null, .int 0])) S1 ++ [.inl (3, 8, .inr (alF 8)), .inr (3, []), .inr (4, []), .inr (5, []), .inr (6, []), .inr (7, []), .inr (8, []), .inr (9, []), .inr (10, [])]) rfl rfl ?_
  refine am_put rfl rfl (Nat.le_of_ble_eq_true rfl) rfl ?_
  refine am_nrm (st9 := []) (M9 := memC (.inr (0, [.ref 1, .ref 29, .null, .int 0])) S1 ++ [.inl (3, 8, .inr (alF 8)), .inr (3, []), .inr (4, []), .inr (5, []), .inr (6, []), .inr (7, []), .inr (8, []), .inr (9, []), .inr (10, [])]) rfl rfl ?_
  refine am_aload_n rfl rfl rfl ?_
  refine am_null rfl ?_
  refine am_put rfl rfl (Nat.le_of_ble_eq_true rfl) rfl ?_
  refine am_aload_n rfl rfl rfl ?_
  refine am_iconst rfl ?_
  refine am_put rfl rfl (Nat.le_of_ble_eq_true rfl) rfl ?_
  refine am_nrm (st9 := []) (M9 := memC (.inr (0, [.ref 1, .ref 29, .null, .int 0])) S1 ++ [.inl (3, 8, .inr (alF 8)), .inr (3, []), .inr (4, []), .inr (5, []), .inr (6, []), .inr (7, []), .inr (8, []), .inr (9, []), .inr (10, [])]) rfl rfl ?_
  refine am_return rfl ⟨rfl, ?_⟩
  rw [alF_8]
  unfold memB
  rw [h0c]
  rfl
theorem k_model : AW g (d + 1) 12 468 103 0 (am_L0 103 [.ref 38]) [] (memB none S ++ [.inr (11, [.int 0, .int 0, .null, .null, .null, .null, .int 0, .null, .int 0, .int 0, .int 0, .int 0, .null, .null, .null, .null, .null, .null, .null])]) (am_is none (mem none (fun k => if k < 38 then S k else if k = 38 then upd (upd (fun _ => 0) 0 1) 8 (-1) else if k = 42 then upd (fun _ => 0) 0 1 else fun _ => 0))) := by
  refine am_aload_n rfl rfl rfl ?_
  refine am_cO rfl (by decide) ?_
  refine am_aload_n rfl rfl rfl ?_
  refine am_iconst rfl ?_
  refine am_put rfl rfl (Nat.le_of_ble_eq_true rfl) rfl ?_
  refine am_nrm (st9 := []) (M9 := memB none S ++ [.inr (11, [.int 1, .int 0, .null, .null, .null, .null, .int 0, .null, .int 0, .int 0, .int 0, .int 0, .null, .null, .null, .null, .null, .null, .null])]) rfl rfl ?_
  refine am_aload_n rfl rfl rfl ?_
  refine am_bipush rfl ?_
  refine am_newa (nc := 11) (ns := 444) (n := 24) rfl rfl (by decide) (Or.inl rfl) ?_
  refine am_nrm (st9 := [.ref 39, .ref 38]) (M9 := memB none S ++ [.inr (11, [.int 1, .int 0, .null, .null, .null, .null, .int 0, .null, .int 0, .int 0, .int 0, .int 0, .null, .null, .null, .null, .null, .null, .null]), .inl (0, 24, .inl fun _ => 0)]) rfl rfl ?_
  refine am_put rfl rfl (Nat.le_of_ble_eq_true rfl) rfl ?_
  refine am_nrm (st9 := []) (M9 := memB none S ++ [.inr (11, [.int 1, .int 0, .ref 39, .null, .null, .null, .int 0, .null, .int 0, .int 0, .int 0, .int 0, .null, .null, .null, .null, .null, .null, .null]), .inl (0, 24, .inl fun _ => 0)]) rfl rfl ?_
  refine am_aload_n rfl rfl rfl ?_
  refine am_bipush rfl ?_
  refine am_newa (nc := 10) (ns := 420) (n := 24) rfl rfl (by decide) (Or.inl rfl) ?_
  refine am_nrm (st9 := [.ref 40, .ref 38]) (M9 := memB none S ++ [.inr (11, [.int 1, .int 0, .ref 39, .null, .null, .null, .int 0, .null, .int 0, .int 0, .int 0, .int 0, .null, .null, .null, .null, .null, .null, .null]), .inl (0, 24, .inl fun _ => 0), .inl (0, 24, .inl fun _ => 0)]) rfl rfl ?_
  refine am_put rfl rfl (Nat.le_of_ble_eq_true rfl) rfl ?_
  refine am_nrm (st9 := []) (M9 := memB none S ++ [.inr (11, [.int 1, .int 0, .ref 39, .ref 40, .null, .null, .int 0, .null, .int 0, .int 0, .int 0, .int 0, .null, .null, .null, .null, .null, .null, .null]), .inl (0, 24, .inl fun _ => 0), .inl (0, 24, .inl fun _ => 0)]) rfl rfl ?_
  refine am_aload_n rfl rfl rfl ?_
  refine am_bipush rfl ?_
  refine am_newa (nc := 9) (ns := 396) (n := 24) rfl rfl (by decide) (Or.inl rfl) ?_
  refine am_nrm (st9 := [.ref 41, .ref 38]) (M9 := memB none S ++ [.inr (11, [.int 1, .int 0, .ref 39, .ref 40, .null, .null, .int 0, .null, .int 0, .int 0, .int 0, .int 0, .null, .null, .null, .null, .null, .null, .null]), .inl (0, 24, .inl fun _ => 0), .inl (0, 24, .inl fun _ => 0), .inl (0, 24, .inl fun _ => 0)]) rfl rfl ?_
  refine am_put rfl rfl (Nat.le_of_ble_eq_true rfl) rfl ?_
  refine am_nrm (st9 := []) (M9 := memB none S ++ [.inr (11, [.int 1, .int 0, .ref 39, .ref 40, .ref 41, .null, .int 0, .null, .int 0, .int 0, .int 0, .int 0, .null, .null, .null, .null, .null, .null, .null]), .inl (0, 24, .inl fun _ => 0), .inl (0, 24, .inl fun _ => 0), .inl (0, 24, .inl fun _ => 0)]) rfl rfl ?_
  refine am_aload_n rfl rfl rfl ?_
  refine am_bipush rfl ?_
  refine am_newa (nc := 8) (ns := 384) (n := 12) rfl rfl (by decide) (Or.inl rfl) ?_
  refine am_nrm (st9 := [.ref 42, .ref 38]) (M9 := memB none S ++ [.inr (11, [.int 1, .int 0, .ref 39, .ref 40, .ref 41, .null, .int 0, .null, .int 0, .int 0, .int 0, .int 0, .null, .null, .null, .null, .null, .null, .null]), .inl (0, 24, .inl fun _ => 0), .inl (0, 24, .inl fun _ => 0), .inl (0, 24, .inl fun _ => 0), .inl (0, 12, .inl fun _ => 0)]) rfl rfl ?_
  refine am_put rfl rfl (Nat.le_of_ble_eq_true rfl) rfl ?_
  refine am_nrm (st9 := []) (M9 := memB none S ++ [.inr (11, [.int 1, .int 0, .ref 39, .ref 40, .ref 41, .ref 42, .int 0, .null, .int 0, .int 0, .int 0, .int 0, .null, .null, .null, .null, .null, .null, .null]), .inl (0, 24, .inl fun _ => 0), .inl (0, 24, .inl fun _ => 0), .inl (0, 24, .inl fun _ => 0), .inl (0, 12, .inl fun _ => 0)]) rfl rfl ?_
  refine am_aload_n rfl rfl rfl ?_
  refine am_sipush rfl ?_
  refine am_newa (nc := 7) (ns := 240) (n := 144) rfl rfl (by decide) (Or.inl rfl) ?_
  refine am_nrm (st9 := [.ref 43, .ref 38]) (M9 := memB none S ++ [.inr (11, [.int 1, .int 0, .ref 39, .ref 40, .ref 41, .ref 42, .int 0, .null, .int 0, .int 0, .int 0, .int 0, .null, .null, .null, .null, .null, .null, .null]), .inl (0, 24, .inl fun _ => 0), .inl (0, 24, .inl fun _ => 0), .inl (0, 24, .inl fun _ => 0), .inl (0, 12, .inl fun _ => 0), .inl (0, 144, .inl fun _ => 0)]) rfl rfl ?_
  refine am_put rfl rfl (Nat.le_of_ble_eq_true rfl) rfl ?_
  refine am_nrm (st9 := []) (M9 := memB none S ++ [.inr (11, [.int 1, .int 0, .ref 39, .ref 40, .ref 41, .ref 42, .int 0, .ref 43, .int 0, .int 0, .int 0, .int 0, .null, .null, .null, .null, .null, .null, .null]), .inl (0, 24, .inl fun _ => 0), .inl (0, 24, .inl fun _ => 0), .inl (0, 24, .inl fun _ => 0), .inl (0, 12, .inl fun _ => 0), .inl (0, 144, .inl fun _ => 0)]) rfl rfl ?_
  refine am_aload_n rfl rfl rfl ?_
  refine am_iconst rfl ?_
  refine am_put rfl rfl (Nat.le_of_ble_eq_true rfl) rfl ?_
  refine am_nrm (st9 := []) (M9 := memB none S ++ [.inr (11, [.int 1, .int 0, .ref 39, .ref 40, .ref 41, .ref 42, .int 0, .ref 43, .int (-1), .int 0, .int 0, .int 0, .null, .null, .null, .null, .null, .null, .null]), .inl (0, 24, .inl fun _ => 0), .inl (0, 24, .inl fun _ => 0), .inl (0, 24, .inl fun _ => 0), .inl (0, 12, .inl fun _ => 0), .inl (0, 144, .inl fun _ => 0)]) rfl rfl ?_
  refine am_aload_n rfl rfl rfl ?_
  refine am_bipush rfl ?_
  refine am_newa (nc := 6) (ns := 228) (n := 12) rfl rfl (by decide) (Or.inl rfl) ?_
  refine am_nrm (st9 := [.ref 44, .ref 38]) (M9 := memB none S ++ [.inr (11, [.int 1, .int 0, .ref 39, .ref 40, .ref 41, .ref 42, .int 0, .ref 43, .int (-1), .int 0, .int 0, .int 0, .null, .null, .null, .null, .null, .null, .null]), .inl (0, 24, .inl fun _ => 0), .inl (0, 24, .inl fun _ => 0), .inl (0, 24, .inl fun _ => 0), .inl (0, 12, .inl fun _ => 0), .inl (0, 144, .inl fun _ => 0), .inl (0, 12, .inl fun _ => 0)]) rfl rfl ?_
  refine am_put rfl rfl (Nat.le_of_ble_eq_true rfl) rfl ?_
  refine am_nrm (st9 := []) (M9 := memB none S ++ [.inr (11, [.int 1, .int 0, .ref 39, .ref 40, .ref 41, .ref 42, .int 0, .ref 43, .int (-1), .int 0, .int 0, .int 0, .ref 44, .null, .null, .null, .null, .null, .null]), .inl (0, 24, .inl fun _ => 0), .inl (0, 24, .inl fun _ => 0), .inl (0, 24, .inl fun _ => 0), .inl (0, 12, .inl fun _ => 0), .inl (0, 144, .inl fun _ => 0), .inl (0, 12, .inl fun _ => 0)]) rfl rfl ?_
  refine am_aload_n rfl rfl rfl ?_
  refine am_bipush rfl ?_
  refine am_newa (nc := 5) (ns := 216) (n := 12) rfl rfl (by decide) (Or.inl rfl) ?_
  refine am_nrm (st9 := [.ref 45, .ref 38]) (M9 := memB none S ++ [.inr (11, [.int 1, .int 0, .ref 39, .ref 40, .ref 41, .ref 42, .int 0, .ref 43, .int (-1), .int 0, .int 0, .int 0, .ref 44, .null, .null, .null, .null, .null, .null]), .inl (0, 24, .inl fun _ => 0), .inl (0, 24, .inl fun _ => 0), .inl (0, 24, .inl fun _ => 0), .inl (0, 12, .inl fun _ => 0), .inl (0, 144, .inl fun _ => 0), .inl (0, 12, .inl fun _ => 0), .inl (0, 12, .inl fun _ => 0)]) rfl rfl ?_
  refine am_put rfl rfl (Nat.le_of_ble_eq_true rfl) rfl ?_
  refine am_nrm (st9 := []) (M9 := memB none S ++ [.inr (11, [.int 1, .int 0, .ref 39, .ref 40, .ref 41, .ref 42, .int 0, .ref 43, .int (-1), .int 0, .int 0, .int 0, .ref 44, .ref 45, .null, .null, .null, .null, .null]), .inl (0, 24, .inl fun _ => 0), .inl (0, 24, .inl fun _ => 0), .inl (0, 24, .inl fun _ => 0), .inl (0, 12, .inl fun _ => 0), .inl (0, 144, .inl fun _ => 0), .inl (0, 12, .inl fun _ => 0), .inl (0, 12, .inl fun _ => 0)]) rfl rfl ?_
  refine am_aload_n rfl rfl rfl ?_
  refine am_bipush rfl ?_
  refine am_newa (nc := 4) (ns := 204) (n := 12) rfl rfl (by decide) (Or.inl rfl) ?_
  refine am_nrm (st9 := [.ref 46, .ref 38]) (M9 := memB none S ++ [.inr (11, [.int 1, .int 0, .ref 39, .ref 40, .ref 41, .ref 42, .int 0, .ref 43, .int (-1), .int 0, .int 0, .int 0, .ref 44, .ref 45, .null, .null, .null, .null, .null]), .inl (0, 24, .inl fun _ => 0), .inl (0, 24, .inl fun _ => 0), .inl (0, 24, .inl fun _ => 0), .inl (0, 12, .inl fun _ => 0), .inl (0, 144, .inl fun _ => 0), .inl (0, 12, .inl fun _ => 0), .inl (0, 12, .inl fun _ => 0), .inl (0, 12, .inl fun _ => 0)]) rfl rfl ?_
  refine am_put rfl rfl (Nat.le_of_ble_eq_true rfl) rfl ?_
  refine am_nrm (st9 := []) (M9 := memB none S ++ [.inr (11, [.int 1, .int 0, .ref 39, .ref 40, .ref 41, .ref 42, .int 0, .ref 43, .int (-1), .int 0, .int 0, .int 0, .ref 44, .ref 45, .ref 46, .null, .null, .null, .null]), .inl (0, 24, .inl fun _ => 0), .inl (0, 24, .inl fun _ => 0), .inl (0, 24, .inl fun _ => 0), .inl (0, 12, .inl fun _ => 0), .inl (0, 144, .inl fun _ => 0), .inl (0, 12, .inl fun _ => 0), .inl (0, 12, .inl fun _ => 0), .inl (0, 12, .inl fun _ => 0)]) rfl rfl ?_
  refine am_aload_n rfl rfl rfl ?_
  refine am_bipush rfl ?_
  refine am_newa (nc := 3) (ns := 192) (n := 12) rfl rfl (by decide) (Or.inl rfl) ?_
  refine am_nrm (st9 := [.ref 47, .ref 38]) (M9 := memB none S ++ [.inr (11, [.int 1, .int 0, .ref 39, .ref 40, .ref 41, .ref 42, .int 0, .ref 43, .int (-1), .int 0, .int 0, .int 0, .ref 44, .ref 45, .ref 46, .null, .null, .null, .null]), .inl (0, 24, .inl fun _ => 0), .inl (0, 24, .inl fun _ => 0), .inl (0, 24, .inl fun _ => 0), .inl (0, 12, .inl fun _ => 0), .inl (0, 144, .inl fun _ => 0), .inl (0, 12, .inl fun _ => 0), .inl (0, 12, .inl fun _ => 0), .inl (0, 12, .inl fun _ => 0), .inl (0, 12, .inl fun _ => 0)]) rfl rfl ?_
  refine am_put rfl rfl (Nat.le_of_ble_eq_true rfl) rfl ?_
  refine am_nrm (st9 := []) (M9 := memB none S ++ [.inr (11, [.int 1, .int 0, .ref 39, .ref 40, .ref 41, .ref 42, .int 0, .ref 43, .int (-1), .int 0, .int 0, .int 0, .ref 44, .ref 45, .ref 46, .ref 47, .null, .null, .null]), .inl (0, 24, .inl fun _ => 0), .inl (0, 24, .inl fun _ => 0), .inl (0, 24, .inl fun _ => 0), .inl (0, 12, .inl fun _ => 0), .inl (0, 144, .inl fun _ => 0), .inl (0, 12, .inl fun _ => 0), .inl (0, 12, .inl fun _ => 0), .inl (0, 12, .inl fun _ => 0), .inl (0, 12, .inl fun _ => 0)]) rfl rfl ?_
  refine am_aload_n rfl rfl rfl ?_
  refine am_sipush rfl ?_
  refine am_newa (nc := 2) (ns := 24) (n := 168) rfl rfl (by decide) (Or.inl rfl) ?_
  refine am_nrm (st9 := [.ref 48, .ref 38]) (M9 := memB none S ++ [.inr (11, [.int 1, .int 0, .ref 39, .ref 40, .ref 41, .ref 42, .int 0, .ref 43, .int (-1), .int 0, .int 0, .int 0, .ref 44, .ref 45, .ref 46, .ref 47, .null, .null, .null]), .inl (0, 24, .inl fun _ => 0), .inl (0, 24, .inl fun _ => 0), .inl (0, 24, .inl fun _ => 0), .inl (0, 12, .inl fun _ => 0), .inl (0, 144, .inl fun _ => 0), .inl (0, 12, .inl fun _ => 0), .inl (0, 12, .inl fun _ => 0), .inl (0, 12, .inl fun _ => 0), .inl (0, 12, .inl fun _ => 0), .inl (0, 168, .inl fun _ => 0)]) rfl rfl ?_
  refine am_put rfl rfl (Nat.le_of_ble_eq_true rfl) rfl ?_
  refine am_nrm (st9 := []) (M9 := memB none S ++ [.inr (11, [.int 1, .int 0, .ref 39, .ref 40, .ref 41, .ref 42, .int 0, .ref 43, .int (-1), .int 0, .int 0, .int 0, .ref 44, .ref 45, .ref 46, .ref 47, .ref 48, .null, .null]), .inl (0, 24, .inl fun _ => 0), .inl (0, 24, .inl fun _ => 0), .inl (0, 24, .inl fun _ => 0), .inl (0, 12, .inl fun _ => 0), .inl (0, 144, .inl fun _ => 0), .inl (0, 12, .inl fun _ => 0), .inl (0, 12, .inl fun _ => 0), .inl (0, 12, .inl fun _ => 0), .inl (0, 12, .inl fun _ => 0), .inl (0, 168, .inl fun _ => 0)]) rfl rfl ?_
  refine am_aload_n rfl rfl rfl ?_
  refine am_bipush rfl ?_
  refine am_newa (nc := 1) (ns := 12) (n := 12) rfl rfl (by decide) (Or.inl rfl) ?_
  refine am_nrm (st9 := [.ref 49, .ref 38]) (M9 := memB none S ++ [.inr (11, [.int 1, .int 0, .ref 39, .ref 40, .ref 41, .ref 42, .int 0, .ref 43, .int (-1), .int 0, .int 0, .int 0, .ref 44, .ref 45, .ref 46, .ref 47, .ref 48, .null, .null]), .inl (0, 24, .inl fun _ => 0), .inl (0, 24, .inl fun _ => 0), .inl (0, 24, .inl fun _ => 0), .inl (0, 12, .inl fun _ => 0), .inl (0, 144, .inl fun _ => 0), .inl (0, 12, .inl fun _ => 0), .inl (0, 12, .inl fun _ => 0), .inl (0, 12, .inl fun _ => 0), .inl (0, 12, .inl fun _ => 0), .inl (0, 168, .inl fun _ => 0), .inl (0, 12, .inl fun _ => 0)]) rfl rfl ?_
  refine am_put rfl rfl (Nat.le_of_ble_eq_true rfl) rfl ?_
  refine am_nrm (st9 := []) (M9 := memB none S ++ [.inr (11, [.int 1, .int 0, .ref 39, .ref 40, .ref 41, .ref 42, .int 0, .ref 43, .int (-1), .int 0, .int 0, .int 0, .ref 44, .ref 45, .ref 46, .ref 47, .ref 48, .ref 49, .null]), .inl (0, 24, .inl fun _ => 0), .inl (0, 24, .inl fun _ => 0), .inl (0, 24, .inl fun _ => 0), .inl (0, 12, .inl fun _ => 0), .inl (0, 144, .inl fun _ => 0), .inl (0, 12, .inl fun _ => 0), .inl (0, 12, .inl fun _ => 0), .inl (0, 12, .inl fun _ => 0), .inl (0, 12, .inl fun _ => 0), .inl (0, 168, .inl fun _ => 0), .inl (0, 12, .inl fun _ => 0)]) rfl rfl ?_
  refine am_aload_n rfl rfl rfl ?_
  refine am_bipush rfl ?_
  refine am_newa (nc := 0) (ns := 0) (n := 12) rfl rfl (by decide) (Or.inl rfl) ?_
  refine am_nrm (st9 := [.ref 50, .ref 38]) (M9 := memB none S ++ [.inr (11, [.int 1, .int 0, .ref 39, .ref 40, .ref 41, .ref 42, .int 0, .ref 43, .int (-1), .int 0, .int 0, .int 0, .ref 44, .ref 45, .ref 46, .ref 47, .ref 48, .ref 49, .null]), .inl (0, 24, .inl fun _ => 0), .inl (0, 24, .inl fun _ => 0), .inl (0, 24, .inl fun _ => 0), .inl (0, 12, .inl fun _ => 0), .inl (0, 144, .inl fun _ => 0), .inl (0, 12, .inl fun _ => 0), .inl (0, 12, .inl fun _ => 0), .inl (0, 12, .inl fun _ => 0), .inl (0, 12, .inl fun _ => 0), .inl (0, 168, .inl fun _ => 0), .inl (0, 12, .inl fun _ => 0), .inl (0, 12, .inl fun _ => 0)]) rfl rfl ?_
  refine am_put rfl rfl (Nat.le_of_ble_eq_true rfl) rfl ?_
  refine am_nrm (st9 := []) (M9 := memB none S ++ [.inr (11, [.int 1, .int 0, .ref 39, .ref 40, .ref 41, .ref 42, .int 0, .ref 43, .int (-1), .int 0, .int 0, .int 0, .ref 44, .ref 45, .ref 46, .ref 47, .ref 48, .ref 49, .ref 50]), .inl (0, 24, .inl fun _ => 0), .inl (0, 24, .inl fun _ => 0), .inl (0, 24, .inl fun _ => 0), .inl (0, 12, .inl fun _ => 0), .inl (0, 144, .inl fun _ => 0), .inl (0, 12, .inl fun _ => 0), .inl (0, 12, .inl fun _ => 0), .inl (0, 12, .inl fun _ => 0), .inl (0, 12, .inl fun _ => 0), .inl (0, 168, .inl fun _ => 0), .inl (0, 12, .inl fun _ => 0), .inl (0, 12, .inl fun _ => 0)]) rfl rfl ?_
  refine am_aload_n rfl rfl rfl ?_
  refine am_get rfl rfl rfl ?_
  refine am_iconst rfl ?_
  refine am_iconst rfl ?_
  refine am_iast (k8 := 0) rfl rfl rfl (by decide) (by decide) ?_
  refine am_nrm (st9 := []) (M9 := memB none S ++ [.inr (11, [.int 1, .int 0, .ref 39, .ref 40, .ref 41, .ref 42, .int 0, .ref 43, .int (-1), .int 0, .int 0, .int 0, .ref 44, .ref 45, .ref 46, .ref 47, .ref 48, .ref 49, .ref 50]), .inl (0, 24, .inl fun _ => 0), .inl (0, 24, .inl fun _ => 0), .inl (0, 24, .inl fun _ => 0), .inl (0, 12, .inl (upd (fun _ => 0) 0 1)), .inl (0, 144, .inl fun _ => 0), .inl (0, 12, .inl fun _ => 0), .inl (0, 12, .inl fun _ => 0), .inl (0, 12, .inl fun _ => 0), .inl (0, 12, .inl fun _ => 0), .inl (0, 168, .inl fun _ => 0), .inl (0, 12, .inl fun _ => 0), .inl (0, 12, .inl fun _ => 0)]) rfl rfl ?_
  exact am_return rfl ⟨rfl, rfl⟩
end CON
