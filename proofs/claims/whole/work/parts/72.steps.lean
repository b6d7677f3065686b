/-! one more round keeps the relation -/
section STP
variable {S : am_S0} {n q : Nat} {fa fb : Nat → Nat} {k rt r : Nat}
theorem chg_eq (R : RelN S n q fa fb) (U : RunR S n q fa fb k rt r) (hf : fns S n q fa fb rt k r = false) {v : Nat} (hv : v < n) : tri (chA k (bt fa fb q) n (ptA n q fa fb rt) (tic S)) v = HK S n q fa fb k rt (r + 1) v := by
  have hn := R.1.1
  have hk := U.1
  have hr := U.2.1
  have I := U.di R
  have hF := U.stat.1
  have hd := U.2.2.2.2.2.2.2.2.2.2.2.1.2
  have h16 : tic S 1 6 = nI (r + 1) := by
    show S 1 6 + 1 = _
    rw [U.cl.2.2.2, nI_1]
  match k, hk, U, hf with
  | 0, _, U, hf =>
    rw [chA0 hv]
    show _ = Hl (bt fa fb q) n (S 42) (S 43) (r + 1) v
    rw [← least_step (ids := S 42) hn R.nb I hF hd hv (show r < 100000 by omega)]
    have e1 : tri (tic S) v = Hl (bt fa fb q) n (S 42) (S 43) r v := U.cl.1 v hv
    rw [e1]
    refine itr_congr (fun u hu t => ?_)
    have a : tic S 24 u = (Hl (bt fa fb q) n (S 42) (S 43) r u).1 := U.b24 hu
    have b : tic S 25 u = (Hl (bt fa fb q) n (S 42) (S 43) r u).2.1 := U.b25 hu
    unfold lt0
    rw [a, b]
  | 1, _, U, hf =>
    obtain ⟨W, hw, hW⟩ := R.ws
    rw [chA1 hv]
    show _ = Hw fa fb (S 41) rt q n (r + 1) v
    rw [← ways_step (rt := rt) (n := n) R.1 hw hW (v := v) (show r < 100 by have := U.2.2.2.2.2.2.2.2.2.2.2.2 rfl; omega)]
    have e1 : tri (tic S) v = Hw fa fb (S 41) rt q n r v := U.cl.1 v hv
    rw [e1, h16]
    refine itr_congr (fun u hu t => ?_)
    have a : tic S 24 u = (Hw fa fb (S 41) rt q n r u).1 := U.b24 hu
    cases e : bt fa fb q v u with
    | none => unfold sh1; rw [e]
    | some e9 =>
      have b : tic S 4 e9 = S 41 e9 := (R.2.2.2.2.2.1.2 e9 (bt_lt e)).1
      rw [sh1_some e a, sh1_some e rfl, b]
  | 2, _, U, hf =>
    have hrt := (U.2.2.2.2.2.2.1 (by unfold rooted; omega)).1
    have T := U.tr R hrt
    obtain ⟨g, Hg, hg⟩ := U.stat.2.2.1 rfl
    rw [chA2]
    exact sums_step (S := tic S) (ids := S 42) hn T Hg hg (show r < 100000 by omega) (fun v hv => U.cl.1 v hv) (fun v hv => U.cl.2.1 v hv) hv
  | 3, _, U, hf =>
    have hrt := (U.2.2.2.2.2.2.1 (by unfold rooted; omega)).1
    have T := U.tr R hrt
    rw [chA3 hv]
    have e1 : tri (tic S) v = (ck (ptA n q fa fb rt) n r (S 42) v, -1, -1) := U.cl.1 v hv
    have h24 : ∀ u, u < n → tic S 24 u = ck (ptA n q fa fb rt) n r (S 42) u := fun u hu => U.b24 hu
    have e2 : ck (ptA n q fa fb rt) n (r + 1) (S 42) v = cst (ptA n q fa fb rt) (ck (ptA n q fa fb rt) n r (S 42)) v := pw_lt hv
    show _ = (ck (ptA n q fa fb rt) n (r + 1) (S 42) v, (-1 : Int32), (-1 : Int32))
    rw [e1, e2]
    congr 1
    unfold col cst
    rw [h24 v hv]
    cases e : ptA n q fa fb rt v with
    | none => rfl
    | some u =>
      have e3 := h24 u (T.2 v u hv e).1
      simp only [e3]
      rfl
  | 4, _, U, hf =>
    obtain ⟨m, hm⟩ := U.stat.2.2.2.1 rfl
    rw [chA4 hv]
    have e1 : tri (tic S) v = Hc (S 46) (S 47) r v := U.cl.1 v hv
    rw [e1]
    exact chosen_step (S := tic S) hn R.nb hd hm (show r < 100000 by omega) (fun u hu => U.b24 hu) (fun u hu => (R.2.2.2.2.2.1.1 u hu).1) h16 hv
  | 5, _, U, hf =>
    obtain ⟨m, P⟩ := U.stat.2.2.2.2.1 rfl
    rw [chA5 hv]
    have e1 : tri (tic S) v = Hp (S 46) (S 47) r v := U.cl.1 v hv
    rw [e1]
    exact pairs_step (S := tic S) R.1 P (show r < 100000 by omega) (fun u hu => U.b24 hu) (fun e he => (R.2.2.2.2.2.1.2 e he).1) h16 hv
  | 6, _, U, hf =>
    have hw := U.stat.2.2.2.2.2 rfl
    rw [chA6 hv]
    have e1 : tri (tic S) v = H6 (bt fa fb q) n (S 47) r v := U.cl.1 v hv
    rw [e1]
    have hrn : r < n := by
      have h' : (!anyb (fun v => decide (S 47 v = nI r + 1)) n) = false := hf
      rw [Bool.not_eq_false'] at h'
      obtain ⟨u, hu, e⟩ := anyb_true.mp h'
      have hb := cm_le (A := bt fa fb q) (n := n) (K := S 38 9) n u
      rw [decide_eq_true_eq, hw u hu, nI_1, nI_eq (by omega) (by omega)] at e
      omega
    exact core_step (S := tic S) hn hw R.nb hrn (fun u hu => U.b24 hu) U.2.2.2.2.1 h16 hv
  | 7, _, U, hf =>
    have hrt := (U.2.2.2.2.2.2.1 (by unfold rooted; omega)).1
    rw [chA7 hv]
    have e1 : tri (tic S) v = H7 (bt fa fb q) (S 43) n rt r v := U.cl.1 v hv
    rw [e1]
    exact sides_step (S := tic S) hn R.nb I hF hrt (show r < 100000 by omega) (fun u hu => U.b24 hu) (fun u hu => by rw [← FR7 R U hu]; exact U.cl.2.2.1 u hu) h16 hv
  | k + 8, hk, _, _ => exact absurd hk (by omega)
/-- the net's relation needs these cells only -/
theorem RelN.eq {S1 : am_S0} (R : RelN S n q fa fb) (h0 : S1 0 3 = S 0 3) (h2 : S1 2 = S 2) (h3 : S1 3 = S 3) (h4 : S1 4 = S 4) (h6 : ∀ j, 6 ≤ j → j < 18 → S1 j = S j) (h38 : ∀ i, i = 0 ∨ i = 1 ∨ i = 6 → S1 38 i = S 38 i) (h39 : S1 39 = S 39) (h40 : S1 40 = S 40) (h41 : S1 41 = S 41) (h42 : S1 42 = S 42) : RelN S1 n q fa fb := by
  obtain ⟨a1, a2, a3, a4, a5, a6, a7, a8⟩ := R
  refine ⟨a1, a2, ⟨by rw [h2]; exact a3.1, a3.2.1, fun u w hu hw => ?_, a3.2.2.2⟩, a4.eq (h38 0 (Or.inl rfl)) (h38 1 (Or.inr (Or.inl rfl))) h39 h40, by rw [h2]; exact a5, ?_, by rw [h0, h38 6 (Or.inr (Or.inr rfl))]; exact a7, by rw [h0, h42]; exact a8⟩
  · rw [h6 (6 + u) (by omega) (by omega)]
    exact a3.2.2.1 u w hu hw
  · unfold IdW
    rw [h3, h4, h41, h42]
    exact a6
theorem HK_sta {S1 : am_S0} (h : Sta S S1) : HK S1 n q fa fb k rt = HK S n q fa fb k rt := by
  funext r v
  unfold HK
  rw [hAf_sta h, hAf_sta h, hAf_sta h]
theorem FR_sta {S1 : am_S0} (h : Sta S S1) : FR S1 n q fa fb k rt = FR S n q fa fb k rt := by
  funext r v
  cases r with
  | zero => rfl
  | succ r =>
    show (!decide ((HK S1 n q fa fb k rt (r + 1) v).1 = (HK S1 n q fa fb k rt r v).1)) = _
    rw [HK_sta h]
    rfl
theorem Stat.eq {S1 : am_S0} (h : Stat S n q fa fb k rt) (A : Sta S S1) (h44 : S1 44 = S 44) (h9 : S1 38 9 = S 38 9) : Stat S1 n q fa fb k rt := by
  obtain ⟨h1, h2, h3, h4, h5, h6⟩ := A
  unfold Stat
  rw [h1, h2, h3, h4, h5, h6, h44, h9]
  exact h
/-- the run's relation needs these cells only -/
theorem RunR.eq {S1 : am_S0} (U : RunR S n q fa fb k rt r) (A : Sta S S1) (h44 : S1 44 = S 44) (h38 : ∀ i, i = 8 ∨ i = 9 → S1 38 i = S 38 i) (h1 : S1 1 5 = S 1 5 ∧ S1 1 6 = S 1 6) (hc : ∀ j, 20 ≤ j → j < 29 → S1 j = S j) : RunR S1 n q fa fb k rt r := by
  obtain ⟨u1, u2, u3, u4, u5, u6, u7, u8, u9, u10, u11, u12, u13⟩ := U
  refine ⟨u1, u2, by rw [h38 8 (Or.inl rfl)]; exact u3, trivial, by rw [h1.1, h38 9 (Or.inr rfl)]; exact u5, trivial, fun h => by rw [h38 9 (Or.inr rfl)]; exact u7 h, fun h v hv => by rw [hc 28 (by decide) (by decide)]; exact u8 h v hv, u9.eq A h44 (h38 9 (Or.inr rfl)), ?_, fun s hs => by rw [fns_sta A]; exact u11 s hs, by rw [A.2.1]; exact u12, u13⟩
  rw [HK_sta A, FR_sta A]
  obtain ⟨c1, c2, c3, c4⟩ := u10
  refine ⟨fun v hv => ?_, fun v hv => ?_, fun v hv => ?_, by rw [h1.2]; exact c4⟩
  · rw [← c1 v hv]
    unfold tri
    rw [hc 20 (by decide) (by decide), hc 21 (by decide) (by decide), hc 22 (by decide) (by decide)]
  · rw [← c2 v hv]
    unfold bri
    rw [hc 24 (by decide) (by decide), hc 25 (by decide) (by decide), hc 26 (by decide) (by decide)]
  · rw [hc 27 (by decide) (by decide)]
    exact c3 v hv
/-- a round of the class -/
theorem ply_sta {p : Nat → Option Nat} {E : Nat → Nat → Option Nat} : Sta S (ply k E n p S) := ⟨ply_o (by decide), ply_o (by decide), ply_o (by decide), ply_o (by decide), ply_o (by decide), ply_o (by decide)⟩
theorem ply_rel (R : RelN S n q fa fb) (U : RunR S n q fa fb k rt r) (hf : fns S n q fa fb rt k r = false) : RelN (ply k (bt fa fb q) n (ptA n q fa fb rt) S) n q fa fb ∧ RunR (ply k (bt fa fb q) n (ptA n q fa fb rt) S) n q fa fb k rt (r + 1) ∧ ply k (bt fa fb q) n (ptA n q fa fb rt) S 1 7 = S 1 7 + ltI S n q fa fb rt k r := by
  have A : Sta S (ply k (bt fa fb q) n (ptA n q fa fb rt) S) := ply_sta
  have hfew := few R U hf
  have e38 : ply k (bt fa fb q) n (ptA n q fa fb rt) S 38 = S 38 := ply_o (by decide)
  refine ⟨R.eq (by rw [ply_o (by decide)]) (ply_o (by decide)) (ply_o (by decide)) (ply_o (by decide)) (fun j h1 h2 => ply_o (by omega)) (fun i _ => by rw [e38]) (ply_o (by decide)) (ply_o (by decide)) (ply_o (by decide)) (ply_o (by decide)), ?_, by rw [ply_17, let_eq R U]⟩
  have hcl := ply_cls (k := k) (E := bt fa fb q) (p := ptA n q fa fb rt) R.1.1 U.cl (fun v hv => chg_eq R U hf hv)
  obtain ⟨u1, u2, u3, u4, u5, u6, u7, u8, u9, u10, u11, u12, u13⟩ := U
  refine ⟨u1, by omega, by rw [e38]; exact u3, trivial, by rw [ply_15, e38]; exact u5, trivial, fun h => by rw [e38]; exact u7 h, fun h v hv => by rw [ply_28]; exact u8 h v hv, u9.eq A (ply_o (by decide)) (by rw [e38]), ?_, fun s hs => ?_, by rw [A.2.1]; exact u12, fun h => hfew.2 h⟩
  · rw [HK_sta A, FR_sta A]
    exact hcl
  · rw [fns_sta A]
    by_cases c : s = r
    · rw [c]; exact hf
    · exact u11 s (by omega)
end STP
