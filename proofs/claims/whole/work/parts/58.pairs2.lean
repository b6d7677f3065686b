/-! PAIRS, round by round -/
section PR2
variable {n q : Nat} {fa fb : Nat → Nat} {w en wh : Nat → Int32} {m : Nat → Nat} {S : am_S0}
theorem fav_spec (G : GR n q fa fb) (h4 : ∀ e, e < q → S 4 e = w e) {v : Nat} (hv : S 24 v = -1) : (fav S (bt fa fb q) n v = none ∧ ∀ u, u < n → (bt fa fb q v u).isSome = true → S 24 u ≠ -1) ∨ ∃ u e, u < n ∧ fav S (bt fa fb q) n v = some u ∧ bt fa fb q v u = some e ∧ S 24 u = -1 ∧ ∀ x f, x < n → bt fa fb q v x = some f → S 24 x = -1 → key w e ≤ key w f := by
  have hq := G.2.1
  have k4 : ∀ e, e < q → key (S 4) e = key w e := fun e he => by unfold key; rw [h4 e he]
  have e0 : fav S (bt fa fb q) n v = itr (fav1 S (bt fa fb q) v) n none := by unfold fav; rw [decide_eq_true hv]; rfl
  have g24 : ∀ x, (bt fa fb q v x).getD 0 < 24 := fun x => by
    cases e : bt fa fb q v x with
    | none => show 0 < 24; omega
    | some f => have := bt_lt e; show f < 24; omega
  have h := argmin (T := Option Nat) (fun t => match t with | none => 10000000000000 | some x => key (S 4) ((bt fa fb q v x).getD 0)) (fun u => key (S 4) ((bt fa fb q v u).getD 0)) (fun u => (bt fa fb q v u).isSome && decide (S 24 u = -1)) (fun u => some u) (fav1 S (bt fa fb q) v) (fun u t h1 h2 => by
      rw [Bool.and_eq_true] at h1
      obtain ⟨e, he⟩ := Option.isSome_iff_exists.mp h1.1
      unfold fav1
      rw [he, h1.2]
      cases t with
      | none => rfl
      | some x =>
        have h2' : key (S 4) ((bt fa fb q v u).getD 0) < key (S 4) ((bt fa fb q v x).getD 0) := h2
        rw [he] at h2'
        show (bif true then (bif hvy (S 4) e ((bt fa fb q v x).getD 0) then some u else some x) else some x) = _
        rw [hvy_key (by have := bt_lt he; omega) (g24 x), decide_eq_true (show key (S 4) e < _ from h2')]
        rfl) (fun u t h => by
      unfold fav1
      cases he : bt fa fb q v u with
      | none => rfl
      | some e =>
        cases hc : decide (S 24 u = -1) with
        | false => rfl
        | true =>
          cases t with
          | none =>
            refine absurd ⟨by rw [he, hc]; rfl, ?_⟩ h
            show key (S 4) ((bt fa fb q v u).getD 0) < 10000000000000
            have a := i32_lo (S 4 ((bt fa fb q v u).getD 0))
            have b := g24 u
            unfold key
            omega
          | some x =>
            show (bif true then (bif hvy (S 4) e ((bt fa fb q v x).getD 0) then some u else some x) else some x) = _
            rw [hvy_key (by have := bt_lt he; omega) (g24 x), decide_eq_false (show ¬ key (S 4) e < _ from fun q9 => h ⟨by rw [he, hc]; rfl, by rw [he]; exact q9⟩)]
            rfl) (fun u _ => rfl) none n
  rw [← e0] at h
  rcases h with ⟨e, ha⟩ | ⟨u, hu, ho, e, _, ha, _⟩
  · refine Or.inl ⟨e, fun u hu hb ho => ?_⟩
    have := ha u hu (by rw [hb, decide_eq_true ho]; rfl)
    have this' : (10000000000000 : Int) ≤ key (S 4) ((bt fa fb q v u).getD 0) := this
    have a := i32_lo (S 4 ((bt fa fb q v u).getD 0))
    have b := g24 u
    unfold key at this'
    omega
  · rw [Bool.and_eq_true, decide_eq_true_eq] at ho
    obtain ⟨e1, he1⟩ := Option.isSome_iff_exists.mp ho.1
    refine Or.inr ⟨u, e1, hu, e, he1, ho.2, fun x f hx hf hox => ?_⟩
    have := ha x hx (by rw [hf, decide_eq_true hox]; rfl)
    simp only [he1, hf, Option.getD_some, k4 e1 (bt_lt he1), k4 f (bt_lt hf)] at this
    exact this
def Hp (en wh : Nat → Int32) (r v : Nat) : T3 := (bif mov wh v (nI r) then en v else -1, bif mov wh v (nI r) then wh v else 0, -1)
def PrF (n q : Nat) (fa fb : Nat → Nat) (w en wh : Nat → Int32) (m : Nat → Nat) : Prop := (∀ v, v < n → (en v = -1 ∧ wh v = 0) ∨ ∃ u e, Mt (bt fa fb q) w en wh m n v u e ∧ m v ≤ q) ∧ ∀ a b e, bt fa fb q a b = some e → P2 (bt fa fb q) w en a b e
/-- open: no pair yet -/
theorem pr_op (G : GR n q fa fb) (P : PrF n q fa fb w en wh m) {r : Nat} (hr : r < 1000000) {v : Nat} (hv : v < n) : (mov wh v (nI r) = true ↔ ∃ u e, Mt (bt fa fb q) w en wh m n v u e ∧ m v ≤ r) ∧ ((Hp en wh r v).1 = -1 ↔ mov wh v (nI r) = false) := by
  have hq := G.2.1
  have hn := G.1
  rcases P.1 v hv with ⟨a, b⟩ | ⟨u, e, a, b⟩
  · have hm := mov_0 (r := r) b
    refine ⟨⟨fun h => (by rw [hm] at h; cases h), fun ⟨u, e, h, _⟩ => ?_⟩, ⟨fun _ => hm, fun _ => (by unfold Hp; rw [hm]; rfl)⟩⟩
    have := h.2.2.1
    rw [a] at this
    exact absurd this (neg1_nI u (by have := h.1; omega))
  · have hm := mov_m (v := v) a.2.2.2.2.1 a.2.2.2.2.2.2.1 (by omega) hr
    have hu := a.1
    refine ⟨?_, ?_⟩
    · rw [hm, decide_eq_true_eq]
      exact ⟨fun h => ⟨u, e, a, h⟩, fun ⟨_, _, _, h⟩ => h⟩
    · unfold Hp
      cases c : mov wh v (nI r) with
      | false => exact ⟨fun _ => rfl, fun _ => rfl⟩
      | true =>
        show en v = -1 ↔ _
        rw [a.2.2.1]
        exact ⟨fun h => absurd h.symm (neg1_nI u (by omega)), fun h => by cases h⟩
theorem pairs_step (G : GR n q fa fb) (P : PrF n q fa fb w en wh m) {r : Nat} (hr : r < 100000) (h24 : ∀ v, v < n → S 24 v = (Hp en wh r v).1) (h4 : ∀ e, e < q → S 4 e = w e) (h16 : S 1 6 = nI (r + 1)) {v : Nat} (hv : v < n) : ph5 S (bt fa fb q) n v (Hp en wh r v) = Hp en wh (r + 1) v := by
  have hq := G.2.1
  have hn := G.1
  have op : ∀ x, x < n → (S 24 x = -1 ↔ ¬ ∃ u e, Mt (bt fa fb q) w en wh m n x u e ∧ m x ≤ r) := fun x hx => by
    rw [h24 x hx, (pr_op G P (by omega) hx).2, ← Bool.not_eq_true, (pr_op G P (by omega) hx).1]
  -- of a pair both or none are open
  have opM : ∀ x u e, x < n → Mt (bt fa fb q) w en wh m n x u e → (S 24 x = -1 ↔ r < m x) := fun x u e hx h => by
    rw [op x hx]
    exact ⟨fun c => Nat.not_le.mp (fun c2 => c ⟨u, e, h, c2⟩), fun c ⟨_, _, _, c2⟩ => by omega⟩
  have sym : ∀ x u e, x < n → Mt (bt fa fb q) w en wh m n x u e → Mt (bt fa fb q) w en wh m n u x e := fun x u e hx ⟨a1, a2, a3, a4, a5, a6, a7, a8, a9⟩ => by
    rcases P.1 u a1 with ⟨b, _⟩ | ⟨u2, e2, ⟨b1, b2, b3, b4, b5, b6, b7, b8, b9⟩, _⟩
    · rw [a4] at b
      exact absurd b.symm (neg1_nI x (by omega))
    · refine ⟨hx, by rw [bt_comm]; exact a2, a4, a3, b5, a6.symm, b7, fun y f hy hl => ?_, ?_⟩
      · rw [a6]; exact a8 y f hy.symm hl
      · rw [a6]
        rcases a9 with a9 | ⟨y, f, hy, hl, a9⟩
        · exact Or.inl a9
        · exact Or.inr ⟨y, f, hy.symm, hl, a9⟩
  -- its favourite, in the round of its pair
  have fw : ∀ x u e, x < n → Mt (bt fa fb q) w en wh m n x u e → m x = r + 1 → fav S (bt fa fb q) n x = some u := fun x u e hx h hm => by
    have hox := (opM x u e hx h).mpr (by omega)
    have hs := sym x u e hx h
    have hou := (opM u x e h.1 hs).mpr (by rw [h.2.2.2.2.2.1]; omega)
    rcases fav_spec G h4 hox with ⟨_, ha⟩ | ⟨u2, e2, g1, g2, g3, g4, g5⟩
    · exact absurd hou (ha u h.1 (by rw [h.2.1]; rfl))
    · rw [g2]
      have hle := g5 u e h.1 h.2.1 hou
      have : ¬ key w e2 < key w e := fun hl => by
        obtain ⟨t1, t2⟩ := h.2.2.2.2.2.2.2.1 u2 e2 (Or.inl g3) hl
        rcases P.1 u2 g1 with ⟨b, _⟩ | ⟨u3, e3, b, _⟩
        · exact t1 b
        · have := (opM u2 u3 e3 g1 b).mp g4
          omega
      have e9 : e2 = e := key_inj (w := w) (by have := bt_lt g3; omega) (by have := bt_lt h.2.1; omega) (by omega)
      subst e9
      obtain ⟨_, i1⟩ := bt_some g3
      obtain ⟨_, i2⟩ := bt_some h.2.1
      congr 1
      omega
  -- each other's favourites are a pair of this round
  have bw : ∀ x u, x < n → fav S (bt fa fb q) n x = some u → fav S (bt fa fb q) n u = some x → ∃ e, Mt (bt fa fb q) w en wh m n x u e ∧ m x = r + 1 := fun x u hx f1 f2 => by
    have ox : S 24 x = -1 := by
      unfold fav at f1
      cases c : decide (S 24 x = -1) with
      | true => exact of_decide_eq_true c
      | false => rw [c] at f1; cases f1
    have ou : S 24 u = -1 := by
      unfold fav at f2
      cases c : decide (S 24 u = -1) with
      | true => exact of_decide_eq_true c
      | false => rw [c] at f2; cases f2
    rcases fav_spec G h4 ox with ⟨g, _⟩ | ⟨u1, e, g1, g2, g3, g4, g5⟩
    · rw [f1] at g; cases g
    · have : u1 = u := Option.some.inj (g2.symm.trans f1)
      subst this
      rcases fav_spec G h4 ou with ⟨g, _⟩ | ⟨x1, e1, k1, k2, k3, k4, k5⟩
      · rw [f2] at g; cases g
      · have : x1 = x := Option.some.inj (k2.symm.trans f2)
        subst this
        have : e1 = e := Option.some.inj (k3.symm.trans ((bt_comm fa fb q u1 x1).trans g3))
        subst this
        rcases P.2 x1 u1 e1 g3 with ⟨p1, p2⟩ | ⟨c, f, p1, p2, p3⟩ | ⟨c, f, p1, p2, p3⟩
        · rcases P.1 x1 hx with ⟨b, _⟩ | ⟨u2, e2, b, _⟩
          · rw [p1] at b; exact absurd b.symm (neg1_nI u1 (by omega))
          · have : u2 = u1 := by
              have := b.2.2.1
              rw [p1] at this
              exact ((nI_eq (by omega) (by have := b.1; omega)).mp this).symm
            subst this
            have : e2 = e1 := Option.some.inj (b.2.1.symm.trans g3)
            subst this
            refine ⟨e2, b, ?_⟩
            have hlt := (opM x1 u2 e2 hx b).mp ox
            rcases b.2.2.2.2.2.2.2.2 with b9 | ⟨y, f, hy, hl, b9⟩
            · omega
            · have hyn : y < n := by rcases hy with hy | hy <;> exact (bt_nd G (by rw [hy]; rfl)).2.1
              have cl : S 24 y ≠ -1 := fun ho => by
                rcases hy with hy | hy
                · have := g5 y f hyn hy ho; omega
                · have := k5 y f hyn hy ho; omega
              rcases P.1 y hyn with ⟨b1, b2⟩ | ⟨u3, e3, b3, _⟩
              · refine absurd ((op y hyn).mpr (fun ⟨u4, e4, h4', _⟩ => ?_)) cl
                have := h4'.2.2.1
                rw [b1] at this
                exact absurd this (neg1_nI u4 (by have := h4'.1; omega))
              · have : ¬ r < m y := fun c => cl ((opM y u3 e3 hyn b3).mpr c)
                omega
        · have hcn := (bt_nd G (show (bt fa fb q x1 c).isSome = true by rw [p1]; rfl)).2.1
          rcases P.1 x1 hx with ⟨b, _⟩ | ⟨u2, e2, b, _⟩
          · rw [p2] at b; exact absurd b.symm (neg1_nI c (by omega))
          · have : u2 = c := by
              have := b.2.2.1
              rw [p2] at this
              exact ((nI_eq (by omega) (by have := b.1; omega)).mp this).symm
            subst this
            have hlt := (opM x1 u2 e2 hx b).mp ox
            have hoc := (opM u2 x1 e2 b.1 (sym x1 u2 e2 hx b)).mpr (by rw [b.2.2.2.2.2.1]; exact hlt)
            have := g5 u2 f hcn p1 hoc
            omega
        · have hcn := (bt_nd G (show (bt fa fb q u1 c).isSome = true by rw [p1]; rfl)).2.1
          rcases P.1 u1 g1 with ⟨b, _⟩ | ⟨u2, e2, b, _⟩
          · rw [p2] at b; exact absurd b.symm (neg1_nI c (by omega))
          · have : u2 = c := by
              have := b.2.2.1
              rw [p2] at this
              exact ((nI_eq (by omega) (by have := b.1; omega)).mp this).symm
            subst this
            have hlt := (opM u1 u2 e2 g1 b).mp ou
            have hoc := (opM u2 u1 e2 b.1 (sym u1 u2 e2 g1 b)).mpr (by rw [b.2.2.2.2.2.1]; exact hlt)
            have := k5 u2 f hcn p1 hoc
            omega
  -- nothing changes but in the round of its pair
  have same : (∀ u e, Mt (bt fa fb q) w en wh m n v u e → m v ≠ r + 1) → Hp en wh r v = Hp en wh (r + 1) v := fun h => by
    have e9 : mov wh v (nI r) = mov wh v (nI (r + 1)) := by
      rw [Bool.eq_iff_iff, (pr_op G P (show r < 1000000 by omega) hv).1, (pr_op G P (show r + 1 < 1000000 by omega) hv).1]
      exact ⟨fun ⟨u, e, a, b⟩ => ⟨u, e, a, by omega⟩, fun ⟨u, e, a, b⟩ => ⟨u, e, a, by have := h u e a; omega⟩⟩
    unfold Hp
    rw [e9]
  unfold ph5
  cases c : fav S (bt fa fb q) n v with
  | none =>
    refine same (fun u e h hm => ?_)
    rw [fw v u e hv h hm] at c
    cases c
  | some u =>
    show (bif decide (fav S (bt fa fb q) n u = some v) then _ else _) = _
    by_cases c2 : fav S (bt fa fb q) n u = some v
    · rw [decide_eq_true c2, cond_true]
      obtain ⟨e, h, hm⟩ := bw v u hv c c2
      have e9 : mov wh v (nI (r + 1)) = true := (pr_op G P (by omega) hv).1.mpr ⟨u, e, h, by omega⟩
      unfold Hp
      rw [e9, h.2.2.1, h.2.2.2.2.1, hm, h16]
      rfl
    · rw [decide_eq_false c2, cond_false]
      refine same (fun u2 e h hm => ?_)
      have f1 := fw v u2 e hv h hm
      have : u2 = u := Option.some.inj (f1.symm.trans c)
      subst this
      exact c2 (fw u2 v e h.1 (sym v u2 e hv h) (by rw [h.2.2.2.2.2.1]; exact hm))
/-- two open neighbours: some pair is still to come -/
theorem pairs_end (G : GR n q fa fb) (P : PrF n q fa fb w en wh m) {r e : Nat} (hr : r < 1000000) (he : e < q) (ha : mov wh (fa e) (nI r) = false) (hb : mov wh (fb e) (nI r) = false) : r < q := by
  have ge := G.2.2.1 e he
  have hq := G.2.1
  have hn := G.1
  have key' : ∀ x c, x < n → en x = nI c → c < n → mov wh x (nI r) = false → r < q := fun x c hx h hc hm => by
    rcases P.1 x hx with ⟨b, _⟩ | ⟨u, e2, b, b2⟩
    · rw [h] at b; exact absurd b.symm (neg1_nI c (by omega))
    · have := mov_m (v := x) b.2.2.2.2.1 b.2.2.2.2.2.2.1 (by omega) hr
      rw [hm] at this
      have := of_decide_eq_false this.symm
      omega
  rcases P.2 (fa e) (fb e) e (bt_of G he (Or.inl ⟨rfl, rfl⟩)) with ⟨p1, p2⟩ | ⟨c, f, p1, p2, p3⟩ | ⟨c, f, p1, p2, p3⟩
  · exact key' _ _ ge.1 p1 ge.2.1 ha
  · exact key' _ c ge.1 p2 (bt_nd G (by rw [p1]; rfl)).2.1 ha
  · exact key' _ c ge.2.1 p2 (bt_nd G (by rw [p1]; rfl)).2.1 hb
end PR2
