/-! the law from its first instruction on -/
def St0 (T : am_S0) : am_S0 := fun k => if k < 38 then T k else if k = 38 then upd (upd (fun _ => 0) 0 1) 8 (-1) else if k = 42 then upd (fun _ => 0) 0 1 else fun _ => 0
theorem St0_lt {T : am_S0} {k : Nat} (h : k < 38) : St0 T k = T k := if_pos h
theorem LI_0 {T : am_S0} (c1 : ∀ v, v < 12 → T 3 v = nI v + 1) (c2 : ∀ u w, u < 12 → w < 12 → T (6 + u) w = -1) (e4 : T 2 4 = 1) (e5 : T 2 5 = 0) (e0 : T 0 3 = 0) : LI (St0 T) none := by
  have l0 : St0 T 0 3 = 0 := by rw [St0_lt (by decide)]; exact e0
  refine ⟨1, 0, fun _ => 0, fun _ => 0, ⟨⟨by omega, by omega, fun e h => absurd h (Nat.not_lt_zero _), fun e f h => absurd h (Nat.not_lt_zero _)⟩, by omega, ⟨?_, by omega, fun u w hu hw => ?_, fun u w e h => by cases h⟩, ⟨rfl, by omega, rfl, by omega, fun e h => absurd h (Nat.not_lt_zero _)⟩, ?_, ⟨fun v hv => ⟨?_, v + 1, ?_, by omega, by omega⟩, fun e h => absurd h (Nat.not_lt_zero _)⟩, ?_, fun h => absurd l0 h⟩, rfl⟩
  · rw [St0_lt (by decide)]
    exact e4
  · rw [St0_lt (by omega)]
    exact c2 u w hu hw
  · rw [St0_lt (by decide)]
    exact e5
  · have : v = 0 := by omega
    subst this
    rw [St0_lt (by decide)]
    exact c1 0 (by decide)
  · have : v = 0 := by omega
    subst this
    rfl
  · rw [l0]
    rfl
theorem law_walk (g : am_G) (hL : am_sl g ≤ 2048) : AW g 9 600000 7302250 0 0 (am_L0 0 [.retAddr 0]) [] [] (fun r _ => r = some (.int 1)) := by
  refine am_new (nc := 599999) (ns := 7302246) (n := 4) (fs := [.null, .null, .null, .int 0]) rfl rfl (fun j hj => by match j, hj with | 0, _ => rfl | 1, _ => rfl | 2, _ => rfl | 3, _ => rfl | j + 4, hj => exact absurd hj (by omega)) rfl ?_
  refine am_nrm (st9 := [.ref 0]) (M9 := [.inr (0, [.null, .null, .null, .int 0])]) rfl rfl ?_
  refine am_dup rfl rfl ?_
  refine am_cI (nc := 599962) (ns := 7301918) (nc' := 37) (ns' := 328) [] rfl rfl rfl (k_bench (d := 4)) ?_
  rintro _ _ ⟨rfl, rfl⟩ _
  have c := clr_at (clr0 Z0 1) 12 (Nat.le_refl _)
  have e2 : clr0 Z0 1 2 = upd (upd (Z0 2) 4 1) 5 0 := am_up_at _ _ _
  have hLI : LI (St0 (itr clr1 12 (clr0 Z0 1))) none := LI_0 c.1 c.2.1 (by rw [clr_2, e2]; rfl) (by rw [clr_2, e2]; rfl) (by rw [clr_out 0 (by omega)])
  generalize itr clr1 12 (clr0 Z0 1) = T at hLI ⊢
  refine am_astore_n rfl ?_
  refine am_new (nc := 599961) (ns := 7301899) (n := 19) (fs := [.int 0, .int 0, .null, .null, .null, .null, .int 0, .null, .int 0, .int 0, .int 0, .int 0, .null, .null, .null, .null, .null, .null, .null]) rfl rfl (fun j hj => by match j, hj with | 0, _ | 1, _ | 2, _ | 3, _ | 4, _ | 5, _ | 6, _ | 7, _ | 8, _ | 9, _ | 10, _ | 11, _ | 12, _ | 13, _ | 14, _ | 15, _ | 16, _ | 17, _ | 18, _ => rfl | j + 19, hj => exact absurd hj (by omega)) rfl ?_
  refine am_nrm (st9 := [.ref 38]) (M9 := memB none T ++ [.inr (11, [.int 0, .int 0, .null, .null, .null, .null, .int 0, .null, .int 0, .int 0, .int 0, .int 0, .null, .null, .null, .null, .null, .null, .null])]) rfl rfl ?_
  refine am_dup rfl rfl ?_
  refine am_cI (nc := 599949) (ns := 7301431) (nc' := 12) (ns' := 468) [] rfl rfl rfl (k_model (d := 7)) ?_
  rintro _ _ ⟨rfl, rfl⟩ _
  refine am_astore_n rfl ?_
  refine am_iconst rfl ?_
  refine am_istore_n rfl ?_
  exact am_wk (Nat.le_refl _) (Nat.zero_le _) (Nat.zero_le _) (law_loop hL (fun _ => rfl) (am_sl g) 0 none (St0 T) (by omega) (by omega) hLI)
