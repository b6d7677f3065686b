/-! choose: the relation at first -/
section CHO
variable {S : am_S0} {n q : Nat} {fa fb : Nat → Nat} {k rt : Nat} {y : Int32} {E : Nat → Nat → Option Nat}
theorem chs_o {j : Nat} (hk : k < 8) (h : j ≠ 1 ∧ j ≠ 18 ∧ j ≠ 20 ∧ j ≠ 21 ∧ j ≠ 22 ∧ j ≠ 24 ∧ j ≠ 25 ∧ j ≠ 26 ∧ j ≠ 27 ∧ j ≠ 28) : chs k E n rt y S j = S j := by
  obtain ⟨h1, h18, h20, h21, h22, h24, h25, h26, h27, h28⟩ := h
  match k, hk with
  | 0, _ | 1, _ | 2, _ | 3, _ | 4, _ | 5, _ | 6, _ | 7, _ => simp only [chs, stl, stA, st0, stR, stG, st6, hld, grw, rst, am_up_ne _ _ h1, am_up_ne _ _ h18, am_up_ne _ _ h20, am_up_ne _ _ h21, am_up_ne _ _ h22, am_up_ne _ _ h24, am_up_ne _ _ h25, am_up_ne _ _ h26, am_up_ne _ _ h27, am_up_ne _ _ h28]
  | k + 8, hk => exact absurd hk (by omega)
theorem chs_1 (hk : k < 8) : chs k E n rt y S 1 5 = y ∧ chs k E n rt y S 1 6 = 0 ∧ chs k E n rt y S 1 7 = 0 := by
  match k, hk with
  | 0, _ | 1, _ | 2, _ | 3, _ | 4, _ | 5, _ | 6, _ | 7, _ => exact ⟨rfl, rfl, rfl⟩
  | k + 8, hk => exact absurd hk (by omega)
theorem mcs_o {j : Nat} (hj : j < 38 ∨ (39 ≤ j ∧ j ≤ 42)) : mcs S n q fa fb rt k y j = S j := by
  unfold mcs
  split <;> simp only [mcs2, mcs1, am_up_ne _ _ (show j ≠ 38 by omega), am_up_ne _ _ (show j ≠ 43 by omega), am_up_ne _ _ (show j ≠ 44 by omega), am_up_ne _ _ (show j ≠ 45 by omega), am_up_ne _ _ (show j ≠ 46 by omega), am_up_ne _ _ (show j ≠ 47 by omega)]
theorem mcs_38 : mcs S n q fa fb rt k y 38 = upd (upd (upd (upd (S 38) 8 (nI k)) 9 y) 10 0) 11 0 := by
  unfold mcs
  split <;> rfl
theorem mcs_43 : mcs S n q fa fb rt k y 43 = mdist (bt fa fb q) n (S 43) := by
  unfold mcs
  split <;> rfl
theorem anc_congr {pr pr2 : Nat → Option Nat} {rk : Nat → Nat} (T : Tr pr n rk) (e : ∀ v, v < n → pr v = pr2 v) : ∀ i v, v < n → anc pr i v = anc pr2 i v
  | 0, _, _ => rfl
  | i + 1, v, hv => by
    show (match pr v with | none => none | some u => anc pr i u) = (match pr2 v with | none => none | some u => anc pr2 i u)
    rw [← e v hv]
    cases h : pr v with
    | none => rfl
    | some u => exact anc_congr T e i u (T.2 v u hv h).1
/-- what choose needs of the model -/
theorem cho_pre (R : RelN S n q fa fb) (hC : Con (bt fa fb q) n) (hD : Dis (S 42) n) (hr : rooted k → rt < n) (f f46 f47 : Nat → Int32) : (k = 2 ∨ k = 3 → Rk (mpr fa fb q n (mdist (bt fa fb q) n f) rt) n (fun v => dst (bt fa fb q) n rt v)) ∧ (k = 4 → ∀ j, j < n → (pkv (S 42) (pck (bt fa fb q) (S 42) n j f46 f47).1 n).isSome = true) ∧ (k = 5 → (∀ j, j < q → (itr (mt1 (S 41) (mtc fa fb (S 41) n q j f46 f47).1) q none).isSome = true) ∧ ∀ j, j < q → ∀ l, (mtc fa fb (S 41) n q j f46 f47).1 = some l → l < q) := by
  have hn := R.1.1
  have I := hC.di hn R.nb
  refine ⟨fun h => ?_, fun _ j hj => pick_some hn R.nb hD f46 f47 j hj, fun _ => match_some R.1 f46 f47⟩
  have hrt := hr (by unfold rooted; omega)
  have P := ptr_rk hn I hrt
  exact ⟨P.1, fun v u hv e => P.2 v u hv (by rw [← mpr_ptr hn R.1 hC hrt f hv]; exact e)⟩
/-- the model's half, chosen -/
theorem cho_stat (R : RelN S n q fa fb) (hC : Con (bt fa fb q) n) (hD : Dis (S 42) n) (hk : k < 8) (hr : rooted k → rt < n) : Stat (mcs S n q fa fb rt k y) n q fa fb k rt := by
  have hn := R.1.1
  have I := hC.di hn R.nb
  have e41 : mcs S n q fa fb rt k y 41 = S 41 := mcs_o (by omega)
  have e42 : mcs S n q fa fb rt k y 42 = S 42 := mcs_o (by omega)
  refine ⟨fun a b ha hb => ?_, fun h v hv => ?_, fun h => ?_, fun h => ?_, fun h => ?_, fun h v hv => ?_⟩
  · rw [mcs_43]
    exact (mdist_rep hn (S 43) a b ha hb).1
  · have hrt := hr (by unfold rooted; omega)
    have e : mcs S n q fa fb rt k y 44 v = em (mpr fa fb q n (mdist (bt fa fb q) n (S 43)) rt v) := by
      rcases h with h | h <;> subst h <;> exact (pw_lt hv : pw n (fun v => em (mpr fa fb q n (mdist (bt fa fb q) n (S 43)) rt v)) (S 44) v = _)
    rw [e, mpr_ptr hn R.1 hC hrt (S 43) hv]
  · subst h
    have hrt := hr (by unfold rooted; omega)
    have T : Tr (mpr fa fb q n (mdist (bt fa fb q) n (S 43)) rt) n (fun v => dst (bt fa fb q) n rt v) := by
      refine ⟨(ptr_rk hn I hrt).1, fun v u hv e => ?_⟩
      rw [mpr_ptr hn R.1 hC hrt (S 43) hv] at e
      have := ptr_some e
      exact ⟨this.1, this.2.2⟩
    obtain ⟨g, H, hg⟩ := hts_spec T (S 45)
    have ec := anc_congr T (fun v hv => mpr_ptr hn R.1 hC hrt (S 43) hv)
    exact ⟨g, ⟨fun v i w hv h => H.1 v i w hv (by rw [ec i v hv]; exact h), fun w hw => by obtain ⟨v, hv, h⟩ := H.2 w hw; exact ⟨v, hv, by rw [← ec _ v hv]; exact h⟩⟩, hg⟩
  · subst h
    rw [e42]
    exact pick_spec hn R.nb hD (S 46) (S 47)
  · subst h
    rw [e41]
    exact match_spec R.1 (S 46) (S 47)
  · subst h
    rw [mcs_38]
    exact pel_cm hn (S 47) n (Nat.le_refl _) v hv
theorem T3_ext {a b : T3} (h1 : a.1 = b.1) (h2 : a.2.1 = b.2.1) (h3 : a.2.2 = b.2.2) : a = b := by
  obtain ⟨a1, a2, a3⟩ := a
  obtain ⟨b1, b2, b3⟩ := b
  simp only at h1 h2 h3
  rw [h1, h2, h3]
def ini0 (k : Nat) (x : Int32) (c d v rt : Nat) : T3 := match k with
  | 0 => (x, 0, -1)
  | 1 => (if v = rt then 0 else -1, -1, 0)
  | 2 => (x, nI c, 0)
  | 3 => (x, -1, -1)
  | 4 => (0, 0, -1)
  | 5 => (-1, 0, -1)
  | 6 => (1, 0, nI d)
  | _ => (if v = rt then 0 else -1, 0, 0)
/-- what is held at first, in the model's words -/
theorem HK_0 {S2 : am_S0} (R : RelN S n q fa fb) (hC : Con (bt fa fb q) n) (hD : Dis (S 42) n) (hk : k < 8) (hr : rooted k → rt < n) (St : Stat S2 n q fa fb k rt) (e41 : S2 41 = S 41) (e42 : S2 42 = S 42) {v : Nat} (hv : v < n) : HK S2 n q fa fb k rt 0 v = ini0 k (S 42 v) (cnt (fun c => decide (ptA n q fa fb rt c = some v)) n) (deg (bt fa fb q) n v) v rt := by
  have hn := R.1.1
  have I := hC.di hn R.nb
  have hF := St.1
  match k, hk, hr, St with
  | 0, _, hr, St =>
    show Hl (bt fa fb q) n (S2 42) (S2 43) 0 v = _
    have s0 := lst_spec (ids := S2 42) hn I hF hv (show 0 < 1000000 by omega)
    have e : lst (S2 42) (S2 43) n v (nI 0) = v := (I.2.1 v _ hv s0.1 (Nat.le_zero.mp s0.2.1)).symm
    unfold Hl
    rw [e, e42, hF v v hv hv, I.1 v hv]
    have em1 : mnr2 (bt fa fb q) n (S2 43) v v = none := by
      unfold mnr2
      refine fst?_none (fun u hu => ?_)
      rw [Bool.and_eq_false_iff, decide_eq_false_iff_not]
      refine Or.inr (fun h => ?_)
      rw [hF u v hu hv, hF v v hv hv, I.1 v hv] at h
      exact neg1_nI _ (by have := I.2.2.2.2.2 u v hu hv; omega) (show (-1 : Int32) = _ from h.symm)
    rw [em1]
    rfl
  | 1, _, hr, St =>
    obtain ⟨W, hw, hW⟩ := R.ws
    show Hw fa fb (S2 41) rt q n 0 v = _
    refine T3_ext ?_ rfl rfl
    rw [Hw_0 R.1 (by rw [e41]; exact hw) hW]
    show (if ww0 rt v < 1000000 then nI (ww0 rt v) else -1) = if v = rt then 0 else -1
    unfold ww0
    by_cases c : v = rt
    · rw [if_pos c, if_pos (by omega), if_pos c]; rfl
    · rw [if_neg c, if_neg (by omega), if_neg c]
  | 2, _, hr, St =>
    have hrt := hr (by unfold rooted; omega)
    have T : Tr (ptA n q fa fb rt) n (fun v => dst (bt fa fb q) n rt v) := ⟨(ptr_rk hn I hrt).1, fun v u hv e => by have := ptr_some e; exact ⟨this.1, this.2.2⟩⟩
    obtain ⟨g, Hg, hg⟩ := St.2.2.1 rfl
    show H2 (ptA n q fa fb rt) (S2 42) (S2 45) n 0 v = _
    rw [H2_is hn T hg (by omega) hv, e42]
    refine T3_ext ?_ ?_ ?_
    · show S 42 v + smI _ n = S 42 v
      rw [smI_0 (fun c _ => by rw [decide_eq_false (Nat.not_lt_zero _), Bool.and_false]; rfl), Int32.add_zero]
    · show smI _ n = nI _
      rw [smI_congr (h := fun c => bif decide (ptA n q fa fb rt c = some v) then 1 else 0) (fun c _ => by rw [decide_eq_true (Nat.zero_le _), Bool.and_true]), smI_cnt]
    · show (bif decide (0 ≤ g v) then (0 : Int32) else 1) = 0
      rw [decide_eq_true (Nat.zero_le _)]
      rfl
  | 3, _, hr, St =>
    show (S2 42 v, (-1 : Int32), (-1 : Int32)) = (S 42 v, (-1 : Int32), (-1 : Int32))
    rw [e42]
  | 4, _, hr, St =>
    obtain ⟨m, hm⟩ := St.2.2.2.1 rfl
    obtain ⟨q1, q2, q3, q4⟩ := hm v hv
    show Hc (S2 46) (S2 47) 0 v = _
    unfold Hc
    rw [mov_m q1 q2 (by omega) (by omega), decide_eq_false (show ¬ m v ≤ 0 by omega)]
    rfl
  | 5, _, hr, St =>
    obtain ⟨m, P⟩ := St.2.2.2.2.1 rfl
    show Hp (S2 46) (S2 47) 0 v = _
    have e : mov (S2 47) v (nI 0) = false := by
      cases c : mov (S2 47) v (nI 0) with
      | false => rfl
      | true =>
        obtain ⟨u, e, h, h2⟩ := (pr_op R.1 P (show 0 < 1000000 by omega) hv).1.mp c
        have := h.2.2.2.2.2.2.1
        omega
    unfold Hp
    rw [e]
    rfl
  | 6, _, hr, St =>
    have hw := St.2.2.2.2.2 rfl
    show H6 (bt fa fb q) n (S2 47) 0 v = _
    have e : mov (S2 47) v (nI 0) = false := by
      rw [co_mov hn hw (by omega) hv, decide_eq_false (by omega)]
    unfold H6
    rw [e]
    refine T3_ext rfl rfl ?_
    show nI (ins (bt fa fb q) (S2 47) n v (nI 0)) = nI (deg (bt fa fb q) n v)
    rw [co_ins hn hw (by omega)]
    unfold deg
    congr 1
    refine cnt_congr n (fun u hu => ?_)
    rw [bt_comm fa fb q u v, decide_eq_true (Or.inr (Nat.zero_le _)), Bool.and_true]
  | 7, _, hr, St =>
    have hrt := hr (by unfold rooted; omega)
    show H7 (bt fa fb q) (S2 43) n rt 0 v = _
    rw [H7_is hn I hF hrt (by omega) hv]
    by_cases c : v = rt
    · have e : dst (bt fa fb q) n rt v = 0 := by rw [c]; exact I.1 rt hrt
      rw [e]
      show (_, (bif smf (bt fa fb q) (dst (bt fa fb q) n) n rt v && decide (0 < 0) then (1 : Int32) else 0), _) = (if v = rt then (0 : Int32) else -1, (0 : Int32), (0 : Int32))
      rw [if_pos c, decide_eq_false (Nat.lt_irrefl 0), Bool.and_false]
      rfl
    · have e : 0 < dst (bt fa fb q) n rt v := Nat.pos_of_ne_zero (fun h => c (I.2.1 rt v hrt hv h).symm)
      rw [decide_eq_true e, decide_eq_false (Nat.not_lt_zero _), Bool.and_false]
      show ((-1 : Int32), (0 : Int32), (0 : Int32)) = (if v = rt then (0 : Int32) else -1, (0 : Int32), (0 : Int32))
      rw [if_neg c]
  | k + 8, hk, _, _ => exact absurd hk (by omega)
/-- what the class holds at first -/
theorem chs_tri (R : RelN S n q fa fb) (hC : Con (bt fa fb q) n) (hk : k < 8) (hr : rooted k → rt < n) {v : Nat} (hv : v < n) : (tri (chs k (bt fa fb q) n rt y S) v = ini0 k (S 3 v) (cnt (fun c => decide (ptA n q fa fb rt c = some v)) n) (deg (bt fa fb q) n v) v rt) ∧ bri (chs k (bt fa fb q) n rt y S) v = tri (chs k (bt fa fb q) n rt y S) v ∧ chs k (bt fa fb q) n rt y S 27 v = bi (fr0 k rt v) ∧ (k = 2 ∨ k = 3 → chs k (bt fa fb q) n rt y S 28 v = em (ptA n q fa fb rt v)) := by
  have hn := R.1.1
  have h12 : v < 12 := by omega
  have hb : ∀ (S : am_S0), bri (stl S) v = tri (stl S) v := fun S => by
    show (pw 12 (S 20) (S 24) v, pw 12 (S 21) (S 25) v, pw 12 (S 22) (S 26) v) = _
    rw [pw_lt h12, pw_lt h12, pw_lt h12]
    rfl
  have hup : ∀ (f : Nat → Int32) (x z : Int32), (∀ v, v < 12 → f v = x) → upd f rt z v = if v = rt then z else x := fun f x z h => by
    by_cases c : v = rt
    · rw [if_pos c, c, pk_us]
    · rw [if_neg c, pk_un c, h v h12]
  refine ⟨?_, hb _, ?_, ?_⟩
  · match k, hk, hr with
    | 0, _, hr =>
      refine T3_ext ?_ ?_ ?_
      · show pw 12 (S 3) _ v = _
        exact pw_lt h12
      · show pw 12 (fun _ => 0) _ v = _
        exact pw_lt h12
      · show pw 12 (fun _ => -1) _ v = _
        exact pw_lt h12
    | 1, _, hr =>
      refine T3_ext ?_ ?_ ?_
      · show upd (pw 12 (fun _ => -1) _) rt 0 v = _
        exact hup _ (-1) 0 (fun v h => pw_lt h)
      · show pw 12 (fun _ => -1) _ v = _
        exact pw_lt h12
      · show pw 12 (fun _ => 0) _ v = _
        exact pw_lt h12
    | 2, _, hr =>
      have hrt := hr (by unfold rooted; omega)
      refine T3_ext ?_ ?_ ?_
      · show pw 12 (S 3) _ v = _
        exact pw_lt h12
      · show chd (nrr (bt fa fb q) n (msr (bt fa fb q) n n (far0 rt (S 18)))) n (pw 12 (fun _ => 0) _) v = _
        rw [chd_cnt (pw_lt h12)]
        show _ = nI (cnt (fun c => decide (ptA n q fa fb rt c = some v)) n)
        congr 1
        exact cnt_congr n (fun c hc => by rw [nrr_ptr hn R.nb hC hrt (S 18) hc])
      · show pw 12 (fun _ => 0) _ v = _
        exact pw_lt h12
    | 3, _, hr =>
      refine T3_ext ?_ ?_ ?_
      · show pw 12 (S 3) _ v = _
        exact pw_lt h12
      · show pw 12 (fun _ => -1) _ v = _
        exact pw_lt h12
      · show pw 12 (fun _ => -1) _ v = _
        exact pw_lt h12
    | 4, _, hr =>
      refine T3_ext ?_ ?_ ?_
      · show pw 12 (fun _ => 0) _ v = _
        exact pw_lt h12
      · show pw 12 (fun _ => 0) _ v = _
        exact pw_lt h12
      · show pw 12 (fun _ => -1) _ v = _
        exact pw_lt h12
    | 5, _, hr =>
      refine T3_ext ?_ ?_ ?_
      · show pw 12 (fun _ => -1) _ v = _
        exact pw_lt h12
      · show pw 12 (fun _ => 0) _ v = _
        exact pw_lt h12
      · show pw 12 (fun _ => -1) _ v = _
        exact pw_lt h12
    | 6, _, hr =>
      refine T3_ext ?_ ?_ ?_
      · show pw 12 (fun _ => 1) _ v = _
        exact pw_lt h12
      · show pw 12 (fun _ => 0) _ v = _
        exact pw_lt h12
      · show pw n (fun v => nI (deg (bt fa fb q) n v)) _ v = _
        exact pw_lt hv
    | 7, _, hr =>
      refine T3_ext ?_ ?_ ?_
      · show upd (pw 12 (fun _ => -1) _) rt 0 v = _
        exact hup _ (-1) 0 (fun v h => pw_lt h)
      · show pw 12 (fun _ => 0) _ v = _
        exact pw_lt h12
      · show pw 12 (fun _ => 0) _ v = _
        exact pw_lt h12
    | k + 8, hk, _ => exact absurd hk (by omega)
  · match k, hk with
    | 0, _ =>
      show pw 12 (fun _ => 1) _ v = _
      exact pw_lt h12
    | 1, _ =>
      show upd (pw 12 (fun _ => 0) _) rt 1 v = bi (decide (v = rt))
      rw [hup _ 0 1 (fun v h => pw_lt h)]
      by_cases c : v = rt
      · rw [if_pos c, decide_eq_true c]; rfl
      · rw [if_neg c, decide_eq_false c]; rfl
    | 2, _ | 3, _ | 4, _ | 5, _ | 6, _ =>
      show pw 12 (fun _ => 0) _ v = _
      exact pw_lt h12
    | 7, _ =>
      show upd (pw 12 (fun _ => 0) _) rt 1 v = bi (decide (v = rt))
      rw [hup _ 0 1 (fun v h => pw_lt h)]
      by_cases c : v = rt
      · rw [if_pos c, decide_eq_true c]; rfl
      · rw [if_neg c, decide_eq_false c]; rfl
    | k + 8, hk => exact absurd hk (by omega)
  · intro h
    have hrt := hr (by unfold rooted; omega)
    have e : chs k (bt fa fb q) n rt y S 28 v = em (nrr (bt fa fb q) n (msr (bt fa fb q) n n (far0 rt (S 18))) v) := by
      rcases h with h | h <;> subst h <;> exact (pw_lt hv : pw n (fun v => em (nrr (bt fa fb q) n (msr (bt fa fb q) n n (far0 rt (S 18))) v)) (S 28) v = _)
    rw [e, nrr_ptr hn R.nb hC hrt (S 18) hv]
/-- choose keeps the relation -/
theorem cho_rel (R : RelN S n q fa fb) (hC : Con (bt fa fb q) n) (hD : Dis (S 42) n) (hk : k < 8) (hr : rooted k → rt < n ∧ y = nI rt) : RelN (mcs (chs k (bt fa fb q) n rt y S) n q fa fb rt k y) n q fa fb ∧ RunR (mcs (chs k (bt fa fb q) n rt y S) n q fa fb rt k y) n q fa fb k rt 0 ∧ mcs (chs k (bt fa fb q) n rt y S) n q fa fb rt k y 38 10 = nI 0 ∧ mcs (chs k (bt fa fb q) n rt y S) n q fa fb rt k y 1 7 = mcs (chs k (bt fa fb q) n rt y S) n q fa fb rt k y 38 11 := by
  have hn := R.1.1
  have co : ∀ j, (j < 38 ∨ (39 ≤ j ∧ j ≤ 42)) → mcs (chs k (bt fa fb q) n rt y S) n q fa fb rt k y j = chs k (bt fa fb q) n rt y S j := fun j hj => mcs_o hj
  have R1 : RelN (chs k (bt fa fb q) n rt y S) n q fa fb := R.eq (by rw [chs_o hk (by decide)]) (chs_o hk (by decide)) (chs_o hk (by decide)) (chs_o hk (by decide)) (fun j h1 h2 => chs_o hk (by omega)) (fun i _ => by rw [chs_o hk (by decide)]) (chs_o hk (by decide)) (chs_o hk (by decide)) (chs_o hk (by decide)) (chs_o hk (by decide))
  have e42 : chs k (bt fa fb q) n rt y S 42 = S 42 := chs_o hk (by decide)
  have e41 : chs k (bt fa fb q) n rt y S 41 = S 41 := chs_o hk (by decide)
  have R2 : RelN (mcs (chs k (bt fa fb q) n rt y S) n q fa fb rt k y) n q fa fb := R1.eq (by rw [co 0 (by omega)]) (co 2 (by omega)) (co 3 (by omega)) (co 4 (by omega)) (fun j h1 h2 => co j (by omega)) (fun i hi => by rw [mcs_38]; rcases hi with h | h | h <;> subst h <;> rfl) (co 39 (by omega)) (co 40 (by omega)) (co 41 (by omega)) (co 42 (by omega))
  have St := cho_stat (y := y) R1 hC (by rw [e42]; exact hD) hk (fun h => (hr h).1)
  have c1 := chs_1 (E := bt fa fb q) (n := n) (rt := rt) (y := y) (S := S) hk
  generalize hS2 : mcs (chs k (bt fa fb q) n rt y S) n q fa fb rt k y = S2 at co R2 St ⊢
  have e38 : S2 38 = upd (upd (upd (upd (chs k (bt fa fb q) n rt y S 38) 8 (nI k)) 9 y) 10 0) 11 0 := by rw [← hS2, mcs_38]
  refine ⟨R2, ⟨hk, by omega, by rw [e38]; rfl, trivial, by rw [e38, co 1 (by omega), c1.1]; rfl, trivial, fun h => ⟨(hr h).1, by rw [e38]; exact (hr h).2⟩, fun h v hv => by rw [co 28 (by omega)]; exact (chs_tri R hC hk (fun h => (hr h).1) hv).2.2.2 h, St, ⟨fun v hv => ?_, fun v hv => ?_, fun v hv => ?_, by rw [co 1 (by omega), c1.2.1]; rfl⟩, fun s hs => absurd hs (Nat.not_lt_zero _), ⟨hC, by rw [co 42 (by omega), e42]; exact hD⟩, fun _ => by omega⟩, by rw [e38]; rfl, by rw [e38, co 1 (by omega), c1.2.2]; rfl⟩
  · have a := (chs_tri (y := y) R hC hk (fun h => (hr h).1) hv).1
    have b := HK_0 R hC hD hk (fun h => (hr h).1) St (by rw [co 41 (by omega), e41]) (by rw [co 42 (by omega), e42]) hv
    have e : tri S2 v = tri (chs k (bt fa fb q) n rt y S) v := by
      unfold tri
      rw [co 20 (by omega), co 21 (by omega), co 22 (by omega)]
    have e3 := (R.2.2.2.2.2.1.1 v hv).1
    rw [e, a, b, e3]
  · have a := (chs_tri (y := y) R hC hk (fun h => (hr h).1) hv).1
    have a2 := (chs_tri (y := y) R hC hk (fun h => (hr h).1) hv).2.1
    have b := HK_0 R hC hD hk (fun h => (hr h).1) St (by rw [co 41 (by omega), e41]) (by rw [co 42 (by omega), e42]) hv
    have e : bri S2 v = bri (chs k (bt fa fb q) n rt y S) v := by
      unfold bri
      rw [co 24 (by omega), co 25 (by omega), co 26 (by omega)]
    have e3 := (R.2.2.2.2.2.1.1 v hv).1
    rw [e, a2, a, b, e3]
  · rw [co 27 (by omega)]
    exact (chs_tri R hC hk (fun h => (hr h).1) hv).2.2.1
end CHO
