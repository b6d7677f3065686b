/-! PAIRS: the greedy matching -/
def key (w : Nat → Int32) (e : Nat) : Int := (e : Int) - 100 * (w e).toInt
theorem hvy_key {w : Nat → Int32} {e f : Nat} (he : e < 24) (hf : f < 24) : hvy w e f = decide (key w e < key w f) := by
  unfold hvy key
  rw [Bool.eq_iff_iff, decide_eq_true_eq]
  by_cases c : w e = w f
  · rw [decide_eq_true c, cond_true, decide_eq_true_eq, c]
    omega
  · rw [decide_eq_false c, cond_false, decide_eq_true_eq, i32_lt]
    have : (w e).toInt ≠ (w f).toInt := fun h => c (i32_eq h)
    omega
theorem key_inj {w : Nat → Int32} {e f : Nat} (he : e < 24) (hf : f < 24) (h : key w e = key w f) : e = f := by
  unfold key at h
  omega
def mt1k (K : Nat → Int) (last : Option Nat) (f : Nat) (e : Option Nat) : Option Nat := bif ov last (fun l => decide (K l < K f)) && ov e (fun x => decide (K f < K x)) then some f else e
section PRS
variable {n q : Nat} {fa fb : Nat → Nat} {w : Nat → Int32}
theorem mt1_k {last : Option Nat} (hl : ∀ l, last = some l → l < 24) : ∀ k, k ≤ 24 → itr (mt1 w last) k none = itr (mt1k (key w) last) k none
  | 0, _ => rfl
  | k + 1, hk => by
    have ih := mt1_k hl k (by omega)
    rw [itr_s, itr_s, ← ih]
    have hx := @mt1_lt w last k
    generalize itr (mt1 w last) k none = e at hx
    unfold mt1 mt1k
    have e1 : ov last (fun l => hvy w l k) = ov last (fun l => decide (key w l < key w k)) := by
      cases last with
      | none => rfl
      | some l => exact hvy_key (hl l rfl) (by omega)
    have e2 : ov e (fun x => hvy w k x) = ov e (fun x => decide (key w k < key w x)) := by
      cases e with
      | none => rfl
      | some x => exact hvy_key (by omega) (by have := hx (x := x) rfl; omega)
    rw [e1, e2]
/-- which edge is next: the heaviest of those that are left -/
theorem mt1_spec {last : Option Nat} (hl : ∀ l, last = some l → l < 24) (hq : q ≤ 24) : (itr (mt1 w last) q none = none ∧ ∀ f, f < q → ov last (fun l => decide (key w l < key w f)) = false) ∨ ∃ e, e < q ∧ itr (mt1 w last) q none = some e ∧ ov last (fun l => decide (key w l < key w e)) = true ∧ ∀ f, f < q → ov last (fun l => decide (key w l < key w f)) = true → key w e ≤ key w f := by
  rw [mt1_k hl q hq]
  have h := argmin (T := Option Nat) (fun t => match t with | none => 10000000000000 | some x => key w x) (fun u => key w u) (fun u => ov last (fun l => decide (key w l < key w u)) && decide (u < 24)) (fun u => some u) (fun u t => bif decide (u < 24) then mt1k (key w) last u t else t) (fun u t h1 h2 => by
      rw [Bool.and_eq_true] at h1
      show (bif decide (u < 24) then mt1k (key w) last u t else t) = _
      rw [h1.2, cond_true]
      unfold mt1k
      rw [h1.1]
      cases t with
      | none => rfl
      | some x =>
        show (bif true && decide (key w u < key w x) then some u else some x) = _
        rw [decide_eq_true (show key w u < key w x from h2)]
        rfl) (fun u t h => by
      show (bif decide (u < 24) then mt1k (key w) last u t else t) = _
      cases e24 : decide (u < 24) with
      | false => rfl
      | true =>
        rw [cond_true]
        unfold mt1k
        cases e : ov last (fun l => decide (key w l < key w u)) with
        | false => rfl
        | true =>
          cases t with
          | none =>
            refine absurd ⟨by rw [e, e24]; rfl, ?_⟩ h
            show key w u < 10000000000000
            have := i32_lo (w u)
            have := of_decide_eq_true e24
            unfold key
            omega
          | some x =>
            show (bif true && decide (key w u < key w x) then some u else some x) = _
            rw [decide_eq_false (show ¬ key w u < key w x from fun q => h ⟨by rw [e, e24]; rfl, q⟩)]
            rfl) (fun u _ => rfl) none q
  have e0 : itr (fun u t => bif decide (u < 24) then mt1k (key w) last u t else t) q none = itr (mt1k (key w) last) q none := itr_congr (fun j hj s => by rw [decide_eq_true (show j < 24 by omega)]; rfl)
  rw [e0] at h
  rcases h with ⟨e, ha⟩ | ⟨x, hx, ho, e, _, ha, _⟩
  · refine Or.inl ⟨e, fun f hf => ?_⟩
    cases c : ov last (fun l => decide (key w l < key w f)) with
    | false => rfl
    | true =>
      have := ha f hf (by rw [c, decide_eq_true (show f < 24 by omega)]; rfl)
      have this' : (10000000000000 : Int) ≤ key w f := this
      have b := i32_lo (w f)
      unfold key at this'
      omega
  · rw [Bool.and_eq_true] at ho
    refine Or.inr ⟨x, hx, e, ho.1, fun f hf h0 => ha f hf (by rw [h0, decide_eq_true (show f < 24 by omega)]; rfl)⟩
/-- an edge is done -/
def dnE (w : Nat → Int32) (last : Option Nat) (f : Nat) : Prop := ov last (fun l => decide (key w l < key w f)) = false
/-- v and u are a pair by e, as it should be -/
def Mt (A : Nat → Nat → Option Nat) (w en wh : Nat → Int32) (m : Nat → Nat) (n v u e : Nat) : Prop := u < n ∧ A v u = some e ∧ en v = nI u ∧ en u = nI v ∧ wh v = nI (m v) ∧ m u = m v ∧ 1 ≤ m v ∧ (∀ x f, (A v x = some f ∨ A u x = some f) → key w f < key w e → en x ≠ -1 ∧ m x + 1 ≤ m v) ∧ (m v = 1 ∨ ∃ x f, (A v x = some f ∨ A u x = some f) ∧ key w f < key w e ∧ m v = m x + 1)
/-- an edge that is done is of a pair, or one of its ends has a heavier one -/
def P2 (A : Nat → Nat → Option Nat) (w en : Nat → Int32) (a b e : Nat) : Prop := (en a = nI b ∧ en b = nI a) ∨ (∃ c f, A a c = some f ∧ en a = nI c ∧ key w f < key w e) ∨ ∃ c f, A b c = some f ∧ en b = nI c ∧ key w f < key w e
def PrI (A : Nat → Nat → Option Nat) (w : Nat → Int32) (n q k : Nat) (s : Option Nat × mtT) : Prop := ∃ m : Nat → Nat, cnt (fun f => ov s.1 (fun l => decide (key w l < key w f))) q + k = q ∧ (∀ l, s.1 = some l → l < q) ∧ (∀ v, v < n → (s.2.1 v = -1 ∧ s.2.2 v = 0) ∨ ∃ u e, Mt A w s.2.1 s.2.2 m n v u e ∧ dnE w s.1 e ∧ m v ≤ k) ∧ ∀ a b e, A a b = some e → dnE w s.1 e → P2 A w s.2.1 a b e
theorem PrI.nxt {A : Nat → Nat → Option Nat} {k : Nat} {s : Option Nat × mtT} (hq : q ≤ 24) (h : PrI A w n q k s) (hk : k < q) : ∃ e, e < q ∧ itr (mt1 w s.1) q none = some e ∧ ov s.1 (fun l => decide (key w l < key w e)) = true ∧ ∀ f, f < q → ov s.1 (fun l => decide (key w l < key w f)) = true → key w e ≤ key w f := by
  obtain ⟨m, h1, h2, _⟩ := h
  rcases mt1_spec (q := q) (w := w) (last := s.1) (fun l hl => by have := h2 l hl; omega) hq with ⟨_, ha⟩ | h3
  · obtain ⟨u, hu, hp⟩ := cnt_pos (p := fun f => ov s.1 (fun l => decide (key w l < key w f))) (n := q) (by omega)
    rw [ha u hu] at hp
    cases hp
  · exact h3
/-- the latest hour of the heavier edges' other ends -/
theorem mtW_spec (G : GR n q fa fb) {en wh : Nat → Int32} {m : Nat → Nat} {e kk : Nat} (he : e < q) (hm : ∀ x f, (bt fa fb q (fa e) x = some f ∨ bt fa fb q (fb e) x = some f) → key w f < key w e → wh x = nI (m x) ∧ m x ≤ kk) (hkk : kk ≤ 24) : ∀ k, k ≤ q → ∃ M, itr (mt2 fa fb w wh e (fa e) (fb e)) k 0 = nI M ∧ M ≤ kk ∧ (∀ x f, f < k → (bt fa fb q (fa e) x = some f ∨ bt fa fb q (fb e) x = some f) → key w f < key w e → m x ≤ M) ∧ (M = 0 ∨ ∃ x f, (bt fa fb q (fa e) x = some f ∨ bt fa fb q (fb e) x = some f) ∧ key w f < key w e ∧ M = m x)
  | 0, _ => ⟨0, rfl, by omega, fun x f h => absurd h (Nat.not_lt_zero _), Or.inl rfl⟩
  | k + 1, hk => by
    obtain ⟨M, h1, h2, h3, h4⟩ := mtW_spec G (wh := wh) (en := en) he hm hkk k (by omega)
    have hq := G.2.1
    rw [itr_s, h1]
    unfold mt2
    rw [hvy_key (show k < 24 by omega) (show e < 24 by omega)]
    by_cases c : key w k < key w e ∧ (isf fa fb k (fa e) || isf fa fb k (fb e)) = true
    · rw [decide_eq_true c.1, c.2, Bool.and_self, cond_true]
      -- the other end
      have hx : ∃ x, (bif isf fa fb k (fa e) then oth fa fb k (fa e) else oth fa fb k (fb e)) = x ∧ (bt fa fb q (fa e) x = some k ∨ bt fa fb q (fb e) x = some k) := by
        cases c1 : isf fa fb k (fa e) with
        | true => exact ⟨_, rfl, Or.inl (isf_bt G (by omega) c1)⟩
        | false =>
          have c2 := c.2
          rw [c1, Bool.false_or] at c2
          exact ⟨_, rfl, Or.inr (isf_bt G (by omega) c2)⟩
      obtain ⟨x, hx1, hx2⟩ := hx
      have uni : ∀ y, (bt fa fb q (fa e) y = some k ∨ bt fa fb q (fb e) y = some k) → y = x := fun y hy => by
        have hne : k ≠ e := fun h => by rw [h] at c; omega
        have ge := G.2.2.1 e he
        have gk := G.2.2.1 k (by omega)
        have un := fun h => hne (G.2.2.2 k e (by omega) he h)
        rcases hy with hy | hy <;> rcases hx2 with hz | hz <;> (obtain ⟨_, y2⟩ := bt_some hy; obtain ⟨_, z2⟩ := bt_some hz)
        · omega
        · exact absurd (by omega) un
        · exact absurd (by omega) un
        · omega
      obtain ⟨w1, w2⟩ := hm x k hx2 c.1
      rw [hx1, w1]
      by_cases c3 : m x ≤ M
      · refine ⟨M, ?_, h2, fun y f hf hy hl => ?_, h4⟩
        · rw [decide_eq_true (nI_le c3 (by omega))]; rfl
        · by_cases e9 : f = k
          · subst e9; rw [uni y hy]; exact c3
          · exact h3 y f (by omega) hy hl
      · refine ⟨m x, ?_, w2, fun y f hf hy hl => ?_, Or.inr ⟨x, k, hx2, c.1, rfl⟩⟩
        · rw [decide_eq_false (fun q => c3 ((nI_leI (by omega) (by omega)).mp q))]; rfl
        · by_cases e9 : f = k
          · subst e9; rw [uni y hy]; exact Nat.le_refl _
          · have := h3 y f (by omega) hy hl
            omega
    · have : (decide (key w k < key w e) && (isf fa fb k (fa e) || isf fa fb k (fb e))) = false := by
        rw [Bool.and_eq_false_iff, decide_eq_false_iff_not]
        by_cases c1 : key w k < key w e
        · exact Or.inr (Bool.eq_false_iff.mpr (fun h => c ⟨c1, h⟩))
        · exact Or.inl c1
      rw [this, cond_false]
      refine ⟨M, rfl, h2, fun y f hf hy hl => ?_, h4⟩
      by_cases e9 : f = k
      · subst e9
        refine absurd ⟨hl, ?_⟩ c
        rw [Bool.or_eq_true]
        rcases hy with hy | hy
        · exact Or.inl (bt_isf G hy).2.1
        · exact Or.inr (bt_isf G hy).2.1
      · exact h3 y f (by omega) hy hl
theorem PrI.step (G : GR n q fa fb) {k : Nat} {s : Option Nat × mtT} (h : PrI (bt fa fb q) w n q k s) (hk : k < q) : PrI (bt fa fb q) w n q (k + 1) (mtS fa fb w q s) := by
  have hq := G.2.1
  have hn := G.1
  obtain ⟨e, he, hsel, hop, hmin⟩ := h.nxt hq hk
  obtain ⟨m, h1, h2, h3, h4⟩ := h
  have e0 : mtS fa fb w q s = (some e, mtU fa fb w q s.2 e) := by unfold mtS; rw [hsel]
  rw [e0]
  have ge := G.2.2.1 e he
  have hbe : bt fa fb q (fa e) (fb e) = some e := bt_of G he (Or.inl ⟨rfl, rfl⟩)
  have hbe2 : bt fa fb q (fb e) (fa e) = some e := bt_of G he (Or.inr ⟨rfl, rfl⟩)
  -- what is done then
  have dn_old : ∀ f, dnE w s.1 f → f < q → key w f < key w e := fun f hf hfq => by
    unfold dnE at hf
    cases hs : s.1 with
    | none => rw [hs] at hf; cases hf
    | some l =>
      rw [hs] at hf hop
      have a : ¬ key w l < key w f := of_decide_eq_false hf
      have b : key w l < key w e := of_decide_eq_true hop
      omega
  have dn_new : ∀ f, f < q → dnE w (some e) f → dnE w s.1 f ∨ f = e := fun f hfq hf => by
    have a : ¬ key w e < key w f := of_decide_eq_false hf
    cases c : ov s.1 (fun l => decide (key w l < key w f)) with
    | false => exact Or.inl c
    | true =>
      have b := hmin f hfq c
      exact Or.inr (key_inj (w := w) (by omega) (by omega) (by omega))
  have dn_up : ∀ f, dnE w s.1 f → f < q → dnE w (some e) f := fun f hf hfq => by
    have := dn_old f hf hfq
    exact decide_eq_false (show ¬ key w e < key w f by omega)
  have dn_e : dnE w (some e) e := decide_eq_false (show ¬ key w e < key w e by omega)
  have hcnt : cnt (fun f => ov (some e) (fun l => decide (key w l < key w f))) q + (k + 1) = q := by
    have := cnt_upd (p := fun f => ov s.1 (fun l => decide (key w l < key w f)) && decide (f < q)) (p2 := fun f => decide (key w e < key w f) && decide (f < q)) (x := e) (by rw [hop, decide_eq_true he]; rfl) (by rw [decide_eq_false (show ¬ key w e < key w e by omega)]; rfl) (fun f hf => by
      by_cases c : f < q
      · rw [decide_eq_true c, Bool.and_true, Bool.and_true, Bool.eq_iff_iff, decide_eq_true_eq]
        constructor
        · intro hl
          cases c2 : ov s.1 (fun l => decide (key w l < key w f)) with
          | true => rfl
          | false =>
            have := dn_old f c2 c
            omega
        · intro hl
          have := hmin f c hl
          have : key w e ≠ key w f := fun h => hf (key_inj (w := w) (by omega) (by omega) h).symm
          omega
      · rw [decide_eq_false c, Bool.and_false, Bool.and_false]) q he
    have c1 : cnt (fun f => ov s.1 (fun l => decide (key w l < key w f)) && decide (f < q)) q = cnt (fun f => ov s.1 (fun l => decide (key w l < key w f))) q := cnt_congr q (fun u hu => by rw [decide_eq_true hu, Bool.and_true])
    have c2 : cnt (fun f => decide (key w e < key w f) && decide (f < q)) q = cnt (fun f => ov (some e) (fun l => decide (key w l < key w f))) q := cnt_congr q (fun u hu => by rw [decide_eq_true hu, Bool.and_true]; rfl)
    omega
  have fr : ∀ v, v < n → (0 ≤ s.2.1 v ↔ s.2.1 v ≠ -1) := fun v hv => by
    rcases h3 v hv with ⟨a, _⟩ | ⟨u, e', ⟨u1, _, u3, _⟩, _⟩
    · rw [a]; exact ⟨fun h => absurd h (by decide), fun h => absurd rfl h⟩
    · rw [u3]; exact ⟨fun _ h => neg1_nI u (by omega) h.symm, fun _ => nI_pos' (by omega)⟩
  by_cases cf : s.2.1 (fa e) = -1 ∧ s.2.1 (fb e) = -1
  · -- both are free
    obtain ⟨fA, fB⟩ := cf
    have free_ne : ∀ v, s.2.1 v ≠ -1 → v ≠ fa e ∧ v ≠ fb e := fun v hv => ⟨fun h => hv (by rw [h]; exact fA), fun h => hv (by rw [h]; exact fB)⟩
    -- other ends of heavier edges are taken
    have taken : ∀ x f, (bt fa fb q (fa e) x = some f ∨ bt fa fb q (fb e) x = some f) → key w f < key w e → s.2.1 x ≠ -1 := fun x f hx hl => by
      have hfq : f < q := by rcases hx with hx | hx <;> exact bt_lt hx
      have hdf : dnE w s.1 f := by
        cases c : ov s.1 (fun l => decide (key w l < key w f)) with
        | false => exact c
        | true => have := hmin f hfq c; omega
      have key' : ∀ a, s.2.1 a = -1 → bt fa fb q a x = some f → s.2.1 x ≠ -1 := fun a ha hb => by
        have hab := bt_nd G (show (bt fa fb q a x).isSome = true by rw [hb]; rfl)
        rcases h4 a x f hb hdf with ⟨p1, p2⟩ | ⟨c, g, g1, g2, g3⟩ | ⟨c, g, g1, g2, g3⟩
        · rw [p2]
          exact fun h => neg1_nI a (by omega) h.symm
        · rw [ha] at g2
          have := bt_nd G (show (bt fa fb q a c).isSome = true by rw [g1]; rfl)
          exact absurd g2 (neg1_nI c (by omega))
        · rw [g2]
          have := bt_nd G (show (bt fa fb q x c).isSome = true by rw [g1]; rfl)
          exact fun h => neg1_nI c (by omega) h.symm
      rcases hx with hx | hx
      · exact key' _ fA hx
      · exact key' _ fB hx
    obtain ⟨M, M1, M2, M3, M4⟩ := mtW_spec (w := w) (wh := s.2.2) (en := s.2.1) (m := m) (kk := k) G he (fun x f hx hl => by
      have ht := taken x f hx hl
      have hxn : x < n := by rcases hx with hx | hx <;> exact (bt_nd G (by rw [hx]; rfl)).2.1
      rcases h3 x hxn with ⟨a, _⟩ | ⟨u, e', ⟨_, _, _, _, u5, _⟩, _, u7⟩
      · exact absurd a ht
      · exact ⟨u5, u7⟩) (by omega) q (Nat.le_refl _)
    have eU : mtU fa fb w q s.2 e = (upd (upd s.2.1 (fa e) (nI (fb e))) (fb e) (nI (fa e)), upd (upd s.2.2 (fa e) (nI (M + 1))) (fb e) (nI (M + 1))) := by
      unfold mtU mtW
      rw [M1, nI_1, fA, fB]
      rfl
    rw [eU]
    have ne := ge.2.2
    have enN : ∀ v, s.2.1 v ≠ -1 → upd (upd s.2.1 (fa e) (nI (fb e))) (fb e) (nI (fa e)) v = s.2.1 v := fun v hv => by rw [pk_un (free_ne v hv).2, pk_un (free_ne v hv).1]
    have enA : upd (upd s.2.1 (fa e) (nI (fb e))) (fb e) (nI (fa e)) (fa e) = nI (fb e) := by rw [pk_un ne, pk_us]
    have enB : upd (upd s.2.1 (fa e) (nI (fb e))) (fb e) (nI (fa e)) (fb e) = nI (fa e) := pk_us
    refine ⟨fun v => if v = fa e ∨ v = fb e then M + 1 else m v, hcnt, fun l hl => by rw [← Option.some.inj hl]; exact he, fun v hv => ?_, fun a b f hf hd => ?_⟩
    · -- the pair itself
      have mine : ∀ a b, (a = fa e ∧ b = fb e ∨ a = fb e ∧ b = fa e) → Mt (bt fa fb q) w (upd (upd s.2.1 (fa e) (nI (fb e))) (fb e) (nI (fa e))) (upd (upd s.2.2 (fa e) (nI (M + 1))) (fb e) (nI (M + 1))) (fun v => if v = fa e ∨ v = fb e then M + 1 else m v) n a b e := fun a b hab => by
        have hx2 : ∀ x f, (bt fa fb q a x = some f ∨ bt fa fb q b x = some f) → (bt fa fb q (fa e) x = some f ∨ bt fa fb q (fb e) x = some f) := fun x f hx => by
          rcases hab with ⟨ha, hb⟩ | ⟨ha, hb⟩
          · rw [ha, hb] at hx; exact hx
          · rw [ha, hb] at hx; exact hx.symm
        have ma : (if a = fa e ∨ a = fb e then M + 1 else m a) = M + 1 := if_pos (by omega)
        have mb : (if b = fa e ∨ b = fb e then M + 1 else m b) = M + 1 := if_pos (by omega)
        refine ⟨by omega, ?_, ?_, ?_, ?_, ?_, ?_, fun x f hx hl => ?_, ?_⟩
        · rcases hab with ⟨ha, hb⟩ | ⟨ha, hb⟩
          · rw [ha, hb]; exact hbe
          · rw [ha, hb]; exact hbe2
        · rcases hab with ⟨ha, hb⟩ | ⟨ha, hb⟩
          · rw [ha, hb]; exact enA
          · rw [ha, hb]; exact enB
        · rcases hab with ⟨ha, hb⟩ | ⟨ha, hb⟩
          · rw [ha, hb]; exact enB
          · rw [ha, hb]; exact enA
        · show _ = nI (if a = fa e ∨ a = fb e then M + 1 else m a)
          rw [ma]
          rcases hab with ⟨ha, hb⟩ | ⟨ha, hb⟩
          · rw [ha, pk_un ne, pk_us]
          · rw [ha, pk_us]
        · show (if b = fa e ∨ b = fb e then M + 1 else m b) = if a = fa e ∨ a = fb e then M + 1 else m a
          rw [ma, mb]
        · show 1 ≤ if a = fa e ∨ a = fb e then M + 1 else m a
          rw [ma]; omega
        · have ht := taken x f (hx2 x f hx) hl
          have hne := free_ne x ht
          have hfq : f < q := by rcases hx with hx | hx <;> exact bt_lt hx
          refine ⟨by rw [enN x ht]; exact ht, ?_⟩
          show (if x = fa e ∨ x = fb e then M + 1 else m x) + 1 ≤ if a = fa e ∨ a = fb e then M + 1 else m a
          rw [ma, if_neg (by omega)]
          have := M3 x f hfq (hx2 x f hx) hl
          omega
        · show (if a = fa e ∨ a = fb e then M + 1 else m a) = 1 ∨ ∃ x f, _ ∧ _ ∧ (if a = fa e ∨ a = fb e then M + 1 else m a) = (if x = fa e ∨ x = fb e then M + 1 else m x) + 1
          rw [ma]
          rcases M4 with M4 | ⟨x, f, hx, hl, M4⟩
          · exact Or.inl (by omega)
          · have hne := free_ne x (taken x f hx hl)
            refine Or.inr ⟨x, f, ?_, hl, ?_⟩
            · rcases hab with ⟨ha, hb⟩ | ⟨ha, hb⟩
              · rw [ha, hb]; exact hx
              · rw [ha, hb]; exact hx.symm
            · rw [if_neg (by omega)]; omega
      by_cases cv : v = fa e ∨ v = fb e
      · rcases cv with cv | cv
        · exact Or.inr ⟨fb e, e, mine v (fb e) (Or.inl ⟨cv, rfl⟩), dn_e, by show (if v = fa e ∨ v = fb e then M + 1 else m v) ≤ k + 1; rw [if_pos (Or.inl cv)]; omega⟩
        · exact Or.inr ⟨fa e, e, mine v (fa e) (Or.inr ⟨cv, rfl⟩), dn_e, by show (if v = fa e ∨ v = fb e then M + 1 else m v) ≤ k + 1; rw [if_pos (Or.inr cv)]; omega⟩
      · have cv1 : v ≠ fa e := fun h => cv (Or.inl h)
        have cv2 : v ≠ fb e := fun h => cv (Or.inr h)
        rcases h3 v hv with ⟨a, b⟩ | ⟨u, e', ⟨u1, u2, u3, u4, u5, u6, u7, u8, u9⟩, ud, uk⟩
        · refine Or.inl ⟨?_, ?_⟩
          · show upd (upd s.2.1 (fa e) (nI (fb e))) (fb e) (nI (fa e)) v = -1
            rw [pk_un cv2, pk_un cv1]; exact a
          · show upd (upd s.2.2 (fa e) (nI (M + 1))) (fb e) (nI (M + 1)) v = 0
            rw [pk_un cv2, pk_un cv1]; exact b
        · have hvm : s.2.1 v ≠ -1 := by rw [u3]; exact fun h => neg1_nI u (by omega) h.symm
          have hum : s.2.1 u ≠ -1 := by rw [u4]; exact fun h => neg1_nI v (by omega) h.symm
          have hune := free_ne u hum
          have mv : (if v = fa e ∨ v = fb e then M + 1 else m v) = m v := if_neg (by omega)
          have mu : (if u = fa e ∨ u = fb e then M + 1 else m u) = m u := if_neg (by omega)
          refine Or.inr ⟨u, e', ⟨u1, u2, by show upd _ _ _ v = _; rw [enN v hvm]; exact u3, by show upd _ _ _ u = _; rw [enN u hum]; exact u4, ?_, ?_, ?_, fun x f hx hl => ?_, ?_⟩, dn_up e' ud (bt_lt u2), ?_⟩
          · show upd (upd s.2.2 (fa e) (nI (M + 1))) (fb e) (nI (M + 1)) v = nI (if v = fa e ∨ v = fb e then M + 1 else m v)
            rw [mv, pk_un cv2, pk_un cv1]; exact u5
          · show (if u = fa e ∨ u = fb e then M + 1 else m u) = if v = fa e ∨ v = fb e then M + 1 else m v
            rw [mv, mu]; exact u6
          · show 1 ≤ if v = fa e ∨ v = fb e then M + 1 else m v
            rw [mv]; exact u7
          · obtain ⟨x1, x2⟩ := u8 x f hx hl
            have hxne := free_ne x x1
            refine ⟨by show upd _ _ _ x ≠ -1; rw [enN x x1]; exact x1, ?_⟩
            show (if x = fa e ∨ x = fb e then M + 1 else m x) + 1 ≤ if v = fa e ∨ v = fb e then M + 1 else m v
            rw [mv, if_neg (by omega)]; exact x2
          · show (if v = fa e ∨ v = fb e then M + 1 else m v) = 1 ∨ ∃ x f, _ ∧ _ ∧ (if v = fa e ∨ v = fb e then M + 1 else m v) = (if x = fa e ∨ x = fb e then M + 1 else m x) + 1
            rw [mv]
            rcases u9 with u9 | ⟨x, f, hx, hl, u9⟩
            · exact Or.inl u9
            · have hxne := free_ne x (u8 x f hx hl).1
              exact Or.inr ⟨x, f, hx, hl, by rw [if_neg (by omega)]; exact u9⟩
          · show (if v = fa e ∨ v = fb e then M + 1 else m v) ≤ k + 1
            rw [mv]; omega
    · -- edges that are done
      show P2 (bt fa fb q) w (upd (upd s.2.1 (fa e) (nI (fb e))) (fb e) (nI (fa e))) a b f
      have hab := bt_nd G (show (bt fa fb q a b).isSome = true by rw [hf]; rfl)
      rcases dn_new f (bt_lt hf) hd with hd | hd
      · rcases h4 a b f hf hd with ⟨p1, p2⟩ | ⟨c, g, g1, g2, g3⟩ | ⟨c, g, g1, g2, g3⟩
        · have ha : s.2.1 a ≠ -1 := by rw [p1]; exact fun h => neg1_nI b (by omega) h.symm
          have hb : s.2.1 b ≠ -1 := by rw [p2]; exact fun h => neg1_nI a (by omega) h.symm
          exact Or.inl ⟨by rw [enN a ha]; exact p1, by rw [enN b hb]; exact p2⟩
        · have hc := bt_nd G (show (bt fa fb q a c).isSome = true by rw [g1]; rfl)
          have ha : s.2.1 a ≠ -1 := by rw [g2]; exact fun h => neg1_nI c (by omega) h.symm
          exact Or.inr (Or.inl ⟨c, g, g1, by rw [enN a ha]; exact g2, g3⟩)
        · have hc := bt_nd G (show (bt fa fb q b c).isSome = true by rw [g1]; rfl)
          have hb : s.2.1 b ≠ -1 := by rw [g2]; exact fun h => neg1_nI c (by omega) h.symm
          exact Or.inr (Or.inr ⟨c, g, g1, by rw [enN b hb]; exact g2, g3⟩)
      · subst hd
        obtain ⟨_, h2⟩ := bt_some hf
        rcases h2 with ⟨ha, hb⟩ | ⟨ha, hb⟩
        · rw [← ha, ← hb]; exact Or.inl ⟨enA, enB⟩
        · rw [← ha, ← hb]; exact Or.inl ⟨enB, enA⟩
  · -- one is taken
    have eU : mtU fa fb w q s.2 e = s.2 := by
      unfold mtU
      have : (!decide (0 ≤ s.2.1 (fa e)) && !decide (0 ≤ s.2.1 (fb e))) = false := by
        rw [Bool.and_eq_false_iff, Bool.not_eq_false', Bool.not_eq_false', decide_eq_true_eq, decide_eq_true_eq, fr _ ge.1, fr _ ge.2.1]
        by_cases c : s.2.1 (fa e) = -1
        · exact Or.inr (fun h => cf ⟨c, h⟩)
        · exact Or.inl c
      rw [this]
      rfl
    rw [eU]
    refine ⟨m, hcnt, fun l hl => by rw [← Option.some.inj hl]; exact he, fun v hv => ?_, fun a b f hf hd => ?_⟩
    · rcases h3 v hv with a | ⟨u, e', a, b, c⟩
      · exact Or.inl a
      · exact Or.inr ⟨u, e', a, dn_up e' b (bt_lt a.2.1), by omega⟩
    · rcases dn_new f (bt_lt hf) hd with hd | hd
      · exact h4 a b f hf hd
      · subst hd
        have tk : ∀ x, x < n → s.2.1 x ≠ -1 → ∃ c g, bt fa fb q x c = some g ∧ s.2.1 x = nI c ∧ key w g < key w f := fun x hx h0 => by
          rcases h3 x hx with ⟨a, _⟩ | ⟨u, e', ⟨u1, u2, u3, _⟩, ud, _⟩
          · exact absurd a h0
          · exact ⟨u, e', u2, u3, dn_old e' ud (bt_lt u2)⟩
        have hab := bt_nd G (show (bt fa fb q a b).isSome = true by rw [hf]; rfl)
        obtain ⟨_, h2⟩ := bt_some hf
        by_cases c : s.2.1 a = -1
        · refine Or.inr (Or.inr (tk b hab.2.1 (fun h => cf ?_)))
          rcases h2 with ⟨ha, hb⟩ | ⟨ha, hb⟩
          · rw [ha, hb]; exact ⟨c, h⟩
          · rw [ha, hb]; exact ⟨h, c⟩
        · exact Or.inr (Or.inl (tk a hab.1 c))
theorem mtc_inv (G : GR n q fa fb) (f h : Nat → Int32) : ∀ k, k ≤ q → PrI (bt fa fb q) w n q k (mtc fa fb w n q k f h)
  | 0, _ => ⟨fun _ => 0, by
      show cnt (fun _ => true) q + 0 = q
      rw [cnt_all (fun _ _ => rfl)]; rfl, fun l hl => (by cases hl), fun v hv => Or.inl ⟨show pw n (fun _ => -1) f v = -1 from pw_lt hv, show pw n (fun _ => 0) h v = 0 from pw_lt hv⟩, fun a b e _ hd => (by cases hd)⟩
  | k + 1, hk => (mtc_inv G f h k (by omega)).step G (by omega)
theorem match_some (G : GR n q fa fb) (f h : Nat → Int32) : (∀ k, k < q → (itr (mt1 w (mtc fa fb w n q k f h).1) q none).isSome = true) ∧ ∀ k, k < q → ∀ l, (mtc fa fb w n q k f h).1 = some l → l < q := by
  refine ⟨fun k hk => ?_, fun k hk l hl => ?_⟩
  · obtain ⟨e, _, h2, _⟩ := (mtc_inv (w := w) G f h k (by omega)).nxt G.2.1 hk
    rw [h2]
    rfl
  · obtain ⟨m, _, h2, _⟩ := mtc_inv (w := w) G f h k (by omega)
    exact h2 l hl
theorem match_spec (G : GR n q fa fb) (f h : Nat → Int32) : ∃ m : Nat → Nat, (∀ v, v < n → ((mtc fa fb w n q q f h).2.1 v = -1 ∧ (mtc fa fb w n q q f h).2.2 v = 0) ∨ ∃ u e, Mt (bt fa fb q) w (mtc fa fb w n q q f h).2.1 (mtc fa fb w n q q f h).2.2 m n v u e ∧ m v ≤ q) ∧ ∀ a b e, bt fa fb q a b = some e → P2 (bt fa fb q) w (mtc fa fb w n q q f h).2.1 a b e := by
  obtain ⟨m, h1, h2, h3, h4⟩ := mtc_inv (w := w) G f h q (Nat.le_refl _)
  refine ⟨m, fun v hv => ?_, fun a b e he => h4 a b e he ?_⟩
  · rcases h3 v hv with a | ⟨u, e, a, _, c⟩
    · exact Or.inl a
    · exact Or.inr ⟨u, e, a, c⟩
  · exact cnt_0 (p := fun f => ov (mtc fa fb w n q q _ h).1 (fun l => decide (key w l < key w f))) (show cnt _ q = 0 by omega) (bt_lt he)
end PRS
