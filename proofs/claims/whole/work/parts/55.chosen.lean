/-! CHOSEN -/
theorem i32_lo (x : Int32) : -2147483648 ≤ x.toInt := by have := Int32.le_toInt x; omega
theorem i32_hi (x : Int32) : x.toInt < 2147483648 := by have := Int32.toInt_lt x; omega
theorem cnt_upd {p p2 : Nat → Bool} {x : Nat} (hx : p x = true) (hx2 : p2 x = false) (ho : ∀ u, u ≠ x → p2 u = p u) : ∀ n, x < n → cnt p2 n + 1 = cnt p n
  | 0, h => absurd h (Nat.not_lt_zero _)
  | n + 1, h => by
    unfold cnt
    by_cases e : x = n
    · subst e
      rw [hx, hx2, cnt_congr x (fun u hu => ho u (by omega))]
      rfl
    · have ih := cnt_upd hx hx2 ho n (by omega)
      rw [ho n (Ne.symm e)]
      cases p n
      · exact ih
      · show cnt p2 n + 1 + 1 = cnt p n + 1
        omega
theorem cnt_pos {p : Nat → Bool} : ∀ {n : Nat}, 0 < cnt p n → ∃ u, u < n ∧ p u = true
  | 0, h => absurd h (Nat.lt_irrefl _)
  | n + 1, h => by
    unfold cnt at h
    cases e : p n with
    | true => exact ⟨n, by omega, e⟩
    | false =>
      rw [e] at h
      obtain ⟨u, hu, hp⟩ := cnt_pos (n := n) h
      exact ⟨u, by omega, hp⟩
theorem cnt_all {p : Nat → Bool} : ∀ {n : Nat}, (∀ u, u < n → p u = true) → cnt p n = n
  | 0, _ => rfl
  | n + 1, h => by
    unfold cnt
    rw [h n (by omega), cnt_all (n := n) (fun u hu => h u (by omega))]
    rfl
theorem cnt_0 {p : Nat → Bool} {n u : Nat} (h : cnt p n = 0) (hu : u < n) : p u = false := by
  induction n with
  | zero => exact absurd hu (Nat.not_lt_zero _)
  | succ n ih =>
    unfold cnt at h
    cases e : p n with
    | true => rw [e] at h; cases h
    | false =>
      rw [e] at h
      by_cases c : u = n
      · rw [c]; exact e
      · exact ih h (by omega)
section CHOSEN
variable {n : Nat} {A : Nat → Nat → Option Nat} {ids : Nat → Int32}
/-- who is picked: the greatest of those that are left -/
theorem pkv_spec (en : Nat → Int32) : (pkv ids en n = none ∧ ∀ u, u < n → en u ≠ 0) ∨ ∃ x, x < n ∧ pkv ids en n = some x ∧ en x = 0 ∧ ∀ u, u < n → en u = 0 → (ids u).toInt ≤ (ids x).toInt := by
  have h := argmin (T := Option Nat) (fun t => match t with | none => 4294967296 | some x => -(ids x).toInt) (fun u => -(ids u).toInt) (fun u => decide (en u = 0)) (fun u => some u) (pk1 ids en) (fun u t h1 h2 => by
      unfold pk1
      rw [h1]
      cases t with
      | none => rfl
      | some x =>
        have h2' : -(ids u).toInt < -(ids x).toInt := h2
        show (bif true && !decide (ids u ≤ ids x) then some u else some x) = _
        rw [decide_eq_false (show ¬ ids u ≤ ids x from fun q => absurd (i32_le.mp q) (by omega))]
        rfl) (fun u t h => by
      unfold pk1
      cases e : decide (en u = 0) with
      | false => rfl
      | true =>
        cases t with
        | none => exact absurd ⟨e, by have := i32_lo (ids u); show -(ids u).toInt < 4294967296; omega⟩ h
        | some x =>
          have : ¬ -(ids u).toInt < -(ids x).toInt := fun q => h ⟨e, q⟩
          show (bif true && !decide (ids u ≤ ids x) then some u else some x) = _
          rw [decide_eq_true (show ids u ≤ ids x from i32_le.mpr (by omega))]
          rfl) (fun u _ => rfl) none n
  rcases h with ⟨e, ha⟩ | ⟨x, hx, ho, e, _, ha, _⟩
  · refine Or.inl ⟨e, fun u hu h0 => ?_⟩
    have := ha u hu (decide_eq_true h0)
    have b := i32_lo (ids u)
    have this' : (4294967296 : Int) ≤ -(ids u).toInt := this
    omega
  · refine Or.inr ⟨x, hx, e, of_decide_eq_true ho, fun u hu h0 => ?_⟩
    have := ha u hu (decide_eq_true h0)
    have this' : -(ids x).toInt ≤ -(ids u).toInt := this
    omega
/-- the least and the greatest hour around -/
theorem pk2_spec {en wh : Nat → Int32} {m : Nat → Nat} {x : Nat} (hm : ∀ u, u < n → en u ≠ 0 → wh u = nI (m u) ∧ m u ≤ 12) : ∀ k, k ≤ n → ∃ o l, itr (pk2 A en wh x) k (1000000, 0) = (nI o, nI l) ∧ o ≤ 1000000 ∧ l ≤ 12 ∧ (∀ u, u < k → (A u x).isSome = true → en u = 1 → o ≤ m u) ∧ (o = 1000000 ∨ ∃ u, u < k ∧ (A u x).isSome = true ∧ en u = 1 ∧ o = m u) ∧ (∀ u, u < k → (A u x).isSome = true → en u = 2 → m u ≤ l) ∧ (l = 0 ∨ ∃ u, u < k ∧ (A u x).isSome = true ∧ en u = 2 ∧ l = m u)
  | 0, _ => ⟨1000000, 0, rfl, Nat.le_refl _, by omega, fun u h => absurd h (Nat.not_lt_zero _), Or.inl rfl, fun u h => absurd h (Nat.not_lt_zero _), Or.inl rfl⟩
  | k + 1, hk => by
    obtain ⟨o, l, e, h1, h2, h3, h4, h5, h6⟩ := pk2_spec hm k (by omega)
    rw [itr_s, e]
    unfold pk2
    have lift1 : (o = 1000000 ∨ ∃ u, u < k ∧ (A u x).isSome = true ∧ en u = 1 ∧ o = m u) → (o = 1000000 ∨ ∃ u, u < k + 1 ∧ (A u x).isSome = true ∧ en u = 1 ∧ o = m u) := fun h => h.imp id (fun ⟨u, a, b⟩ => ⟨u, by omega, b⟩)
    have lift2 : (l = 0 ∨ ∃ u, u < k ∧ (A u x).isSome = true ∧ en u = 2 ∧ l = m u) → (l = 0 ∨ ∃ u, u < k + 1 ∧ (A u x).isSome = true ∧ en u = 2 ∧ l = m u) := fun h => h.imp id (fun ⟨u, a, b⟩ => ⟨u, by omega, b⟩)
    cases c : (A k x).isSome with
    | false =>
      refine ⟨o, l, rfl, h1, h2, fun u hu ha he => ?_, lift1 h4, fun u hu ha he => ?_, lift2 h6⟩
      · by_cases e9 : u = k
        · rw [e9, c] at ha; cases ha
        · exact h3 u (by omega) ha he
      · by_cases e9 : u = k
        · rw [e9, c] at ha; cases ha
        · exact h5 u (by omega) ha he
    | true =>
      by_cases c1 : en k = 1
      · have hmk := hm k (by omega) (by rw [c1]; decide)
        have c2 : ¬ en k = 2 := by rw [c1]; decide
        rw [decide_eq_true c1, decide_eq_false c2, hmk.1]
        by_cases c3 : o ≤ m k
        · refine ⟨o, l, ?_, h1, h2, fun u hu ha he => ?_, lift1 h4, fun u hu ha he => ?_, lift2 h6⟩
          · show (bif decide (nI o ≤ nI (m k)) then nI o else nI (m k), nI l) = _
            rw [decide_eq_true (nI_le c3 (by omega))]
            rfl
          · by_cases e9 : u = k
            · rw [e9]; exact c3
            · exact h3 u (by omega) ha he
          · by_cases e9 : u = k
            · rw [e9] at he; exact absurd he c2
            · exact h5 u (by omega) ha he
        · refine ⟨m k, l, ?_, by omega, h2, fun u hu ha he => ?_, Or.inr ⟨k, by omega, c, c1, rfl⟩, fun u hu ha he => ?_, lift2 h6⟩
          · show (bif decide (nI o ≤ nI (m k)) then nI o else nI (m k), nI l) = _
            rw [decide_eq_false (fun q => c3 ((nI_leI (by omega) (by omega)).mp q))]
            rfl
          · by_cases e9 : u = k
            · rw [e9]; exact Nat.le_refl _
            · have := h3 u (by omega) ha he
              omega
          · by_cases e9 : u = k
            · rw [e9] at he; exact absurd he c2
            · exact h5 u (by omega) ha he
      · rw [decide_eq_false c1]
        by_cases c2 : en k = 2
        · have hmk := hm k (by omega) (by rw [c2]; decide)
          rw [decide_eq_true c2, hmk.1]
          by_cases c3 : m k ≤ l
          · refine ⟨o, l, ?_, h1, h2, fun u hu ha he => ?_, lift1 h4, fun u hu ha he => ?_, lift2 h6⟩
            · show (nI o, bif decide (nI (m k) ≤ nI l) then nI l else nI (m k)) = _
              rw [decide_eq_true (nI_le c3 (by omega))]
              rfl
            · by_cases e9 : u = k
              · rw [e9] at he; exact absurd he c1
              · exact h3 u (by omega) ha he
            · by_cases e9 : u = k
              · rw [e9]; exact c3
              · exact h5 u (by omega) ha he
          · refine ⟨o, m k, ?_, h1, hmk.2, fun u hu ha he => ?_, lift1 h4, fun u hu ha he => ?_, Or.inr ⟨k, by omega, c, c2, rfl⟩⟩
            · show (nI o, bif decide (nI (m k) ≤ nI l) then nI l else nI (m k)) = _
              rw [decide_eq_false (fun q => c3 ((nI_leI (by omega) (by omega)).mp q))]
              rfl
            · by_cases e9 : u = k
              · rw [e9] at he; exact absurd he c1
              · exact h3 u (by omega) ha he
            · by_cases e9 : u = k
              · rw [e9]; exact Nat.le_refl _
              · have := h5 u (by omega) ha he
                omega
        · rw [decide_eq_false c2]
          refine ⟨o, l, rfl, h1, h2, fun u hu ha he => ?_, lift1 h4, fun u hu ha he => ?_, lift2 h6⟩
          · by_cases e9 : u = k
            · rw [e9] at he; exact absurd he c1
            · exact h3 u (by omega) ha he
          · by_cases e9 : u = k
            · rw [e9] at he; exact absurd he c2
            · exact h5 u (by omega) ha he
/-- when and how a node ends -/
def ChS (A : Nat → Nat → Option Nat) (n : Nat) (ids en : Nat → Int32) (m : Nat → Nat) (v : Nat) : Prop := (en v = 2 ∧ (∃ u, u < n ∧ (A v u).isSome = true ∧ (ids v).toInt < (ids u).toInt ∧ en u = 1 ∧ m u = m v) ∧ ∀ u, u < n → (A v u).isSome = true → (ids v).toInt < (ids u).toInt → en u = 1 → m v ≤ m u) ∨ (en v = 1 ∧ (∀ u, u < n → (A v u).isSome = true → (ids v).toInt < (ids u).toInt → en u = 2 ∧ m u + 1 ≤ m v) ∧ (m v = 1 ∨ ∃ u, u < n ∧ (A v u).isSome = true ∧ (ids v).toInt < (ids u).toInt ∧ m v = m u + 1))
def ChI (A : Nat → Nat → Option Nat) (n : Nat) (ids : Nat → Int32) (k : Nat) (s : (Nat → Int32) × (Nat → Int32)) : Prop := ∃ m : Nat → Nat, cnt (fun u => decide (s.1 u = 0)) n + k = n ∧ (∀ v u, v < n → u < n → s.1 v ≠ 0 → (ids v).toInt < (ids u).toInt → s.1 u ≠ 0) ∧ ∀ v, v < n → s.1 v ≠ 0 → s.2 v = nI (m v) ∧ 1 ≤ m v ∧ m v ≤ k ∧ ChS A n ids s.1 m v
theorem ChI.some {k : Nat} {s : (Nat → Int32) × (Nat → Int32)} (h : ChI A n ids k s) (hk : k < n) : ∃ x, x < n ∧ pkv ids s.1 n = some x ∧ s.1 x = 0 ∧ ∀ u, u < n → s.1 u = 0 → (ids u).toInt ≤ (ids x).toInt := by
  rcases pkv_spec (n := n) (ids := ids) s.1 with ⟨_, ha⟩ | h2
  · obtain ⟨m, h1, _⟩ := h
    obtain ⟨u, hu, hp⟩ := cnt_pos (p := fun u => decide (s.1 u = 0)) (n := n) (by omega)
    exact absurd (of_decide_eq_true hp) (ha u hu)
  · exact h2
theorem ChI.step (hn : n ≤ 12) (hB : Nb A n) (hd : Dis ids n) {k : Nat} {s : (Nat → Int32) × (Nat → Int32)} (h : ChI A n ids k s) (hk : k < n) : ChI A n ids (k + 1) (pkS A ids n s) := by
  obtain ⟨x, hx, hpk, hx0, hmax⟩ := h.some hk
  obtain ⟨m, h1, h2, h3⟩ := h
  have e0 : pkS A ids n s = pkU A n s x := by unfold pkS; rw [hpk]
  rw [e0]
  -- done nodes are higher, higher ones are done
  have up : ∀ u, u < n → s.1 u ≠ 0 → (ids x).toInt < (ids u).toInt := fun u hu h0 => by
    have hne : u ≠ x := fun e => h0 (by rw [e]; exact hx0)
    rcases Int.lt_trichotomy (ids x).toInt (ids u).toInt with c | c | c
    · exact c
    · exact absurd (hd x u hx hu (i32_eq c)).symm hne
    · exact absurd hx0 (h2 u x hu hx h0 c)
  have dn : ∀ u, u < n → (ids x).toInt < (ids u).toInt → s.1 u ≠ 0 := fun u hu hl h0 => by
    have := hmax u hu h0
    omega
  obtain ⟨o, l, e, g1, g2, g3, g4, g5, g6⟩ := pk2_spec (A := A) (en := s.1) (wh := s.2) (m := m) (x := x) (n := n) (fun u hu h0 => ⟨(h3 u hu h0).1, by have := (h3 u hu h0).2.2.1; omega⟩) n (Nat.le_refl _)
  have key : ∀ (a b : Int32) (z : Nat), a ≠ 0 → b = nI z → 1 ≤ z → z ≤ k + 1 → ChS A n ids (upd s.1 x a) (fun v => if v = x then z else m v) x → ChI A n ids (k + 1) (upd s.1 x a, upd s.2 x b) := by
    intro a b z ha hb hz1 hz2 hS
    refine ⟨fun v => if v = x then z else m v, ?_, fun v u hv hu h0 hl => ?_, fun v hv h0 => ?_⟩
    · have := cnt_upd (p := fun u => decide (s.1 u = 0)) (p2 := fun u => decide (upd s.1 x a u = 0)) (x := x) (decide_eq_true hx0) (by rw [pk_us]; exact decide_eq_false ha) (fun u hu => by rw [pk_un hu]) n hx
      show cnt (fun u => decide (upd s.1 x a u = 0)) n + (k + 1) = n
      omega
    · show upd s.1 x a u ≠ 0
      have h0' : upd s.1 x a v ≠ 0 := h0
      by_cases c : u = x
      · rw [c, pk_us]; exact ha
      · rw [pk_un c]
        by_cases c2 : v = x
        · subst c2; exact dn u hu hl
        · rw [pk_un c2] at h0'
          exact h2 v u hv hu h0' hl
    · have h0' : upd s.1 x a v ≠ 0 := h0
      by_cases c : v = x
      · subst c
        refine ⟨?_, ?_, ?_, hS⟩
        · show upd s.2 v b v = nI (if v = v then z else m v)
          rw [pk_us, if_pos rfl, hb]
        · show 1 ≤ (if v = v then z else m v)
          rw [if_pos rfl]; exact hz1
        · show (if v = v then z else m v) ≤ k + 1
          rw [if_pos rfl]; exact hz2
      · rw [pk_un c] at h0'
        obtain ⟨q1, q2, q3, q4⟩ := h3 v hv h0'
        refine ⟨?_, ?_, ?_, ?_⟩
        · show upd s.2 x b v = nI (if v = x then z else m v)
          rw [pk_un c, if_neg c]; exact q1
        · show 1 ≤ (if v = x then z else m v)
          rw [if_neg c]; exact q2
        · show (if v = x then z else m v) ≤ k + 1
          rw [if_neg c]; omega
        · have hvx := up v hv h0'
          have ne : ∀ u, (ids v).toInt < (ids u).toInt → u ≠ x := fun u hl e => by rw [e] at hl; omega
          unfold ChS
          show (upd s.1 x a v = 2 ∧ _) ∨ (upd s.1 x a v = 1 ∧ _)
          rw [pk_un c]
          simp only [if_neg c]
          rcases q4 with ⟨p1, ⟨u, u1, u2, u3, u4, u5⟩, p3⟩ | ⟨p1, p2, p3⟩
          · refine Or.inl ⟨p1, ⟨u, u1, u2, u3, by rw [pk_un (ne u u3)]; exact u4, by rw [if_neg (ne u u3)]; exact u5⟩, fun u' a1 a2 a3 a4 => ?_⟩
            rw [pk_un (ne u' a3)] at a4
            rw [if_neg (ne u' a3)]
            exact p3 u' a1 a2 a3 a4
          · refine Or.inr ⟨p1, fun u' a1 a2 a3 => ?_, ?_⟩
            · rw [pk_un (ne u' a3), if_neg (ne u' a3)]
              exact p2 u' a1 a2 a3
            · rcases p3 with p3 | ⟨u, u1, u2, u3, u4⟩
              · exact Or.inl p3
              · exact Or.inr ⟨u, u1, u2, u3, by rw [if_neg (ne u u3)]; exact u4⟩
  unfold pkU
  rw [e]
  have nx : ∀ u, (A x u).isSome = true → u ≠ x := fun u hu => (hB.1 x u hu).2.2.symm
  by_cases c : o < 1000000
  · rw [mil_f (show o < 1000000 from c)]
    rcases g4 with g4 | ⟨u, u1, u2, u3, u4⟩
    · omega
    · have hu0 : s.1 u ≠ 0 := by rw [u3]; decide
      have hmu := h3 u u1 hu0
      refine key 2 (nI o) o (by decide) rfl (by omega) (by omega) (Or.inl ⟨pk_us, ⟨u, u1, by rw [hB.2]; exact u2, up u u1 hu0, by rw [pk_un (nx u (by rw [hB.2]; exact u2))]; exact u3, ?_⟩, fun u' a1 a2 a3 a4 => ?_⟩)
      · dsimp only
        rw [if_neg (nx u (by rw [hB.2]; exact u2)), if_pos rfl]; omega
      · rw [pk_un (nx u' a2)] at a4
        dsimp only
        rw [if_pos rfl, if_neg (nx u' a2)]
        exact g3 u' a1 (by rw [hB.2]; exact a2) a4
  · rw [mil_t (show 1000000 ≤ o by omega) (by omega)]
    have no1 : ∀ u, u < n → (A x u).isSome = true → s.1 u ≠ 1 := fun u hu ha h => by
      have := g3 u hu (by rw [hB.2]; exact ha) h
      have := (h3 u hu (by rw [h]; decide)).2.2.1
      omega
    have lk : l ≤ k := by
      rcases g6 with g6 | ⟨u, u1, u2, u3, u4⟩
      · omega
      · have := (h3 u u1 (by rw [u3]; decide)).2.2.1
        omega
    have en12 : ∀ u, u < n → s.1 u ≠ 0 → s.1 u = 1 ∨ s.1 u = 2 := fun u hu h0 => by
      rcases (h3 u hu h0).2.2.2 with ⟨p, _⟩ | ⟨p, _⟩
      · exact Or.inr p
      · exact Or.inl p
    refine key 1 (nI l + 1) (l + 1) (by decide) (nI_1 l) (by omega) (by omega) (Or.inr ⟨pk_us, fun u' a1 a2 a3 => ?_, ?_⟩)
    · have hu0 := dn u' a1 a3
      have e2 : s.1 u' = 2 := (en12 u' a1 hu0).resolve_left (no1 u' a1 a2)
      dsimp only
      rw [pk_un (nx u' a2), if_pos rfl, if_neg (nx u' a2)]
      have := g5 u' a1 (by rw [hB.2]; exact a2) e2
      exact ⟨e2, by omega⟩
    · dsimp only
      rw [if_pos rfl]
      rcases g6 with g6 | ⟨u, u1, u2, u3, u4⟩
      · exact Or.inl (by omega)
      · have ha : (A x u).isSome = true := by rw [hB.2]; exact u2
        exact Or.inr ⟨u, u1, ha, up u u1 (by rw [u3]; decide), by rw [if_neg (nx u ha)]; omega⟩
theorem pck_inv (hn : n ≤ 12) (hB : Nb A n) (hd : Dis ids n) (f h : Nat → Int32) : ∀ k, k ≤ n → ChI A n ids k (pck A ids n k f h)
  | 0, _ => ⟨fun _ => 0, by
      show cnt (fun u => decide (pw n (fun _ => 0) f u = 0)) n + 0 = n
      rw [cnt_all (fun u hu => by rw [pw_lt hu]; rfl)]; rfl, fun v u hv hu h0 => absurd (show pw n (fun _ => 0) f v = 0 from pw_lt hv) h0, fun v hv h0 => absurd (show pw n (fun _ => 0) f v = 0 from pw_lt hv) h0⟩
  | k + 1, hk => (pck_inv hn hB hd f h k (by omega)).step hn hB hd (by omega)
theorem pick_some (hn : n ≤ 12) (hB : Nb A n) (hd : Dis ids n) (f h : Nat → Int32) (k : Nat) (hk : k < n) : (pkv ids (pck A ids n k f h).1 n).isSome = true := by
  obtain ⟨x, _, e, _⟩ := (pck_inv hn hB hd f h k (by omega)).some hk
  rw [e]
  rfl
theorem pick_spec (hn : n ≤ 12) (hB : Nb A n) (hd : Dis ids n) (f h : Nat → Int32) : ∃ m : Nat → Nat, ∀ v, v < n → (pck A ids n n f h).2 v = nI (m v) ∧ 1 ≤ m v ∧ m v ≤ n ∧ ChS A n ids (pck A ids n n f h).1 m v := by
  obtain ⟨m, h1, _, h3⟩ := pck_inv hn hB hd f h n (Nat.le_refl _)
  refine ⟨m, fun v hv => h3 v hv (fun e => ?_)⟩
  have := cnt_0 (p := fun u => decide ((pck A ids n n f h).1 u = 0)) (show cnt _ n = 0 by omega) hv
  rw [decide_eq_false_iff_not] at this
  exact this e
end CHOSEN
