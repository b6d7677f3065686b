/-! SUMS -/
theorem i32_alc (a b c : Int32) : a + (b + c) = b + (a + c) := by rw [← Int32.add_assoc, Int32.add_comm a b, Int32.add_assoc]
theorem i32_a4 (a b c d : Int32) : a + b + (c + d) = a + c + (b + d) := by rw [Int32.add_assoc, Int32.add_assoc, i32_alc b c d]
theorem smI_add (f h : Nat → Int32) : ∀ n, smI (fun v => f v + h v) n = smI f n + smI h n
  | 0 => rfl
  | n + 1 => by
    show smI (fun v => f v + h v) n + (f n + h n) = smI f n + f n + (smI h n + h n)
    rw [smI_add f h n, i32_a4]
theorem smI_swap (f : Nat → Nat → Int32) (n : Nat) : ∀ m, smI (fun c => smI (fun u => f c u) n) m = smI (fun u => smI (fun c => f c u) m) n
  | 0 => (smI_0 (fun _ _ => rfl)).symm
  | m + 1 => by
    show smI (fun c => smI (fun u => f c u) n) m + smI (fun u => f m u) n = smI (fun u => smI (fun c => f c u) m + f m u) n
    rw [smI_swap f n m, ← smI_add]
theorem smI_uni {q : Nat → Bool} {x : Int32} : ∀ n, (∀ a b, a < n → b < n → q a = true → q b = true → a = b) → smI (fun c => bif q c then x else 0) n = bif anyb q n then x else 0
  | 0, _ => rfl
  | n + 1, h => by
    have ih := smI_uni (q := q) (x := x) n (fun a b ha hb => h a b (by omega) (by omega))
    show smI (fun c => bif q c then x else 0) n + (bif q n then x else 0) = bif anyb q n || q n then x else 0
    rw [ih]
    cases e1 : anyb q n with
    | true =>
      obtain ⟨u, hu, hq⟩ := anyb_true.mp e1
      cases e2 : q n with
      | true => have := h u n (by omega) (by omega) hq e2; omega
      | false => exact Int32.add_zero x
    | false =>
      cases e2 : q n with
      | true => exact Int32.zero_add x
      | false => rfl
section SUMS
variable {n : Nat} {pr : Nat → Option Nat} {rk : Nat → Nat} {ids : Nat → Int32}
/-- a tree, by ranks -/
def Tr (pr : Nat → Option Nat) (n : Nat) (rk : Nat → Nat) : Prop := (∀ v, v < n → rk v < 12) ∧ ∀ v u, v < n → pr v = some u → u < n ∧ rk u + 1 = rk v
def anc (pr : Nat → Option Nat) : Nat → Nat → Option Nat
  | 0, v => some v
  | j + 1, v => match pr v with
    | none => none
    | some u => anc pr j u
theorem anc_up : ∀ {j v w u : Nat}, anc pr j v = some w → pr w = some u → anc pr (j + 1) v = some u
  | 0, v, w, u, h, h2 => by
    cases h
    show (match pr v with | none => none | some u => anc pr 0 u) = some u
    rw [h2]
    rfl
  | j + 1, v, w, u, h, h2 => by
    unfold anc at h
    cases e : pr v with
    | none => rw [e] at h; cases h
    | some x =>
      rw [e] at h
      show (match pr v with | none => none | some u => anc pr (j + 1) u) = some u
      rw [e]
      exact anc_up (j := j) h h2
theorem anc_dn : ∀ {j v w : Nat}, anc pr (j + 1) v = some w → ∃ c, anc pr j v = some c ∧ pr c = some w
  | 0, v, w, h => by
    unfold anc at h
    cases e : pr v with
    | none => rw [e] at h; cases h
    | some x =>
      rw [e] at h
      cases h
      exact ⟨v, rfl, e⟩
  | j + 1, v, w, h => by
    have h' : (match pr v with | none => none | some u => anc pr (j + 1) u) = some w := h
    cases e : pr v with
    | none => rw [e] at h'; cases h'
    | some x =>
      rw [e] at h'
      obtain ⟨c, h1, h2⟩ := anc_dn (j := j) h'
      refine ⟨c, ?_, h2⟩
      show (match pr v with | none => none | some u => anc pr j u) = some c
      rw [e]
      exact h1
theorem anc_rk (T : Tr pr n rk) : ∀ {j v w : Nat}, v < n → anc pr j v = some w → w < n ∧ rk w + j = rk v
  | 0, v, w, hv, h => by cases h; exact ⟨hv, rfl⟩
  | j + 1, v, w, hv, h => by
    have h' : (match pr v with | none => none | some u => anc pr j u) = some w := h
    cases e : pr v with
    | none => rw [e] at h'; cases h'
    | some x =>
      rw [e] at h'
      have hx := T.2 v x hv e
      have := anc_rk T (j := j) hx.1 h'
      omega
/-- heights -/
theorem clb_spec (T : Tr pr n rk) : ∀ fuel v h (f : Nat → Int32) (g : Nat → Nat), v < n → rk v < fuel → h + fuel ≤ 40 → (∀ w, w < n → f w = nI (g w) ∧ g w ≤ 40) → ∃ g2 : Nat → Nat, (∀ w, w < n → clb pr fuel v h f w = nI (g2 w) ∧ g2 w ≤ 40 ∧ g w ≤ g2 w) ∧ (∀ i w, anc pr i v = some w → h + i ≤ g2 w) ∧ ∀ w, w < n → g2 w = g w ∨ ∃ i, anc pr i v = some w ∧ g2 w = h + i
  | 0, v, h, f, g, hv, hf, _, _ => absurd hf (Nat.not_lt_zero _)
  | fuel + 1, v, h, f, g, hv, hf, hh, hg => by
    -- the first step
    have hup : ∀ w, w < n → upd f v (bif decide (nI h ≤ f v) then f v else nI h) w = nI (if w = v then max (g v) h else g w) ∧ (if w = v then max (g v) h else g w) ≤ 40 := fun w hw => by
      have hgv := hg v hv
      have hgw := hg w hw
      by_cases c : w = v
      · rw [if_pos c, c, pk_us, hgv.1]
        by_cases c2 : h ≤ g v
        · rw [decide_eq_true (nI_le c2 (by omega)), Nat.max_eq_left c2]; exact ⟨rfl, hgv.2⟩
        · rw [decide_eq_false (fun q => c2 ((nI_leI (by omega) (by omega)).mp q)), Nat.max_eq_right (by omega)]; exact ⟨rfl, by omega⟩
      · rw [if_neg c, pk_un c]; exact hgw
    have hmx : g v ≤ max (g v) h ∧ h ≤ max (g v) h := ⟨Nat.le_max_left _ _, Nat.le_max_right _ _⟩
    cases e : pr v with
    | none =>
      have ec : clb pr (fuel + 1) v h f = upd f v (bif decide (nI h ≤ f v) then f v else nI h) := by
        show (match pr v with | none => _ | some u => _) = _
        rw [e]
      rw [ec]
      refine ⟨fun w => if w = v then max (g v) h else g w, fun w hw => ⟨(hup w hw).1, (hup w hw).2, ?_⟩, fun i w hi => ?_, fun w hw => ?_⟩
      · show g w ≤ if w = v then max (g v) h else g w
        by_cases c : w = v
        · rw [if_pos c, c]; exact hmx.1
        · rw [if_neg c]; exact Nat.le_refl _
      · show h + i ≤ if w = v then max (g v) h else g w
        cases i with
        | zero => cases hi; rw [if_pos rfl]; exact hmx.2
        | succ i =>
          have hi' : (match pr v with | none => none | some u => anc pr i u) = some w := hi
          rw [e] at hi'
          cases hi'
      · show (if w = v then max (g v) h else g w) = g w ∨ ∃ i, anc pr i v = some w ∧ (if w = v then max (g v) h else g w) = h + i
        by_cases c : w = v
        · rw [if_pos c, c]
          rcases Nat.le_total h (g v) with c2 | c2
          · exact Or.inl (Nat.max_eq_left c2)
          · exact Or.inr ⟨0, rfl, Nat.max_eq_right c2⟩
        · rw [if_neg c]; exact Or.inl rfl
    | some u =>
      have hu := T.2 v u hv e
      have ec : clb pr (fuel + 1) v h f = clb pr fuel u (h + 1) (upd f v (bif decide (nI h ≤ f v) then f v else nI h)) := by
        show (match pr v with | none => _ | some u => _) = _
        rw [e]
      obtain ⟨g2, h1, h2, h3⟩ := clb_spec T fuel u (h + 1) _ (fun w => if w = v then max (g v) h else g w) hu.1 (by omega) (by omega) hup
      rw [ec]
      have base : ∀ w, w < n → g w ≤ (if w = v then max (g v) h else g w) := fun w hw => by
        by_cases c : w = v
        · rw [if_pos c, c]; exact hmx.1
        · rw [if_neg c]; exact Nat.le_refl _
      refine ⟨g2, fun w hw => ⟨(h1 w hw).1, (h1 w hw).2.1, Nat.le_trans (base w hw) (h1 w hw).2.2⟩, fun i w hi => ?_, fun w hw => ?_⟩
      · cases i with
        | zero =>
          cases hi
          have := (h1 v hv).2.2
          have this' : (if v = v then max (g v) h else g v) ≤ g2 v := this
          rw [if_pos rfl] at this'
          omega
        | succ i =>
          have hi' : (match pr v with | none => none | some u => anc pr i u) = some w := hi
          rw [e] at hi'
          have := h2 i w hi'
          omega
      · rcases h3 w hw with hh3 | ⟨i, h4, h5⟩
        · rw [hh3]
          by_cases c : w = v
          · subst c
            show (if w = w then max (g w) h else g w) = g w ∨ ∃ i, anc pr i w = some w ∧ (if w = w then max (g w) h else g w) = h + i
            rw [if_pos rfl]
            rcases Nat.le_total h (g w) with c2 | c2
            · exact Or.inl (Nat.max_eq_left c2)
            · exact Or.inr ⟨0, rfl, Nat.max_eq_right c2⟩
          · exact Or.inl (if_neg c)
        · refine Or.inr ⟨i + 1, ?_, by omega⟩
          show (match pr v with | none => none | some u => anc pr i u) = some w
          rw [e]
          exact h4
/-- heights: the farthest one under a node -/
def Hgt (pr : Nat → Option Nat) (n : Nat) (g : Nat → Nat) : Prop := (∀ v i w, v < n → anc pr i v = some w → i ≤ g w) ∧ ∀ w, w < n → ∃ v, v < n ∧ anc pr (g w) v = some w
theorem hts_spec (T : Tr pr n rk) (f : Nat → Int32) : ∃ g : Nat → Nat, Hgt pr n g ∧ ∀ w, w < n → hts pr n n f w = nI (g w) ∧ g w ≤ 40 := by
  have key : ∀ k, k ≤ n → ∃ g : Nat → Nat, (∀ w, w < n → hts pr n k f w = nI (g w) ∧ g w ≤ 40) ∧ (∀ v i w, v < k → anc pr i v = some w → i ≤ g w) ∧ ∀ w, w < n → g w = 0 ∨ ∃ v, v < n ∧ anc pr (g w) v = some w := by
    intro k
    induction k with
    | zero =>
      intro _
      exact ⟨fun _ => 0, fun w hw => ⟨(pw_lt hw : pw n (fun _ => 0) f w = 0), Nat.zero_le _⟩, fun v i w h => absurd h (Nat.not_lt_zero _), fun w _ => Or.inl rfl⟩
    | succ k ih =>
      intro hk
      obtain ⟨g, h1, h2, h3⟩ := ih (by omega)
      obtain ⟨g2, i1, i2, i3⟩ := clb_spec T 13 k 0 (hts pr n k f) g (by omega) (by have := T.1 k (by omega); omega) (by omega) h1
      refine ⟨g2, fun w hw => ⟨(i1 w hw).1, (i1 w hw).2.1⟩, fun v i w hv hi => ?_, fun w hw => ?_⟩
      · by_cases c : v = k
        · subst c
          have := i2 i w hi
          omega
        · have hw := (anc_rk T (show v < n by omega) hi).1
          have := h2 v i w (by omega) hi
          have := (i1 w hw).2.2
          omega
      · rcases i3 w hw with h | ⟨i, h, h'⟩
        · rw [h]; exact h3 w hw
        · exact Or.inr ⟨k, by omega, by rw [h', Nat.zero_add]; exact h⟩
  obtain ⟨g, h1, h2, h3⟩ := key n (Nat.le_refl _)
  refine ⟨g, ⟨h2, fun w hw => ?_⟩, h1⟩
  rcases h3 w hw with h | h
  · exact ⟨w, hw, by rw [h]; rfl⟩
  · exact h
theorem Hgt.ch (T : Tr pr n rk) {g : Nat → Nat} (H : Hgt pr n g) {c w : Nat} (hc : c < n) (h : pr c = some w) : g c + 1 ≤ g w := by
  obtain ⟨v, hv, ha⟩ := H.2 c hc
  exact H.1 v _ w hv (anc_up ha h)
theorem Hgt.ex (T : Tr pr n rk) {g : Nat → Nat} (H : Hgt pr n g) {w : Nat} (hw : w < n) : g w = 0 ∨ ∃ c, c < n ∧ pr c = some w ∧ g w = g c + 1 := by
  obtain ⟨v, hv, ha⟩ := H.2 w hw
  cases e : g w with
  | zero => exact Or.inl rfl
  | succ i =>
    rw [e] at ha
    obtain ⟨c, h1, h2⟩ := anc_dn ha
    have hc := (anc_rk T hv h1).1
    have a := H.1 v i c hv h1
    have b := H.ch T hc h2
    exact Or.inr ⟨c, hc, h2, by omega⟩
theorem Hgt.lt (T : Tr pr n rk) {g : Nat → Nat} (H : Hgt pr n g) {w : Nat} (hw : w < n) : g w < 12 := by
  obtain ⟨v, hv, ha⟩ := H.2 w hw
  have := anc_rk T hv ha
  have := T.1 v hv
  omega
/-- under -/
theorem und_anc (T : Tr pr n rk) : ∀ fuel v a, v < n → rk v < fuel → (und pr fuel v a = true ↔ ∃ i, anc pr i v = some a)
  | 0, v, a, hv, hf => absurd hf (Nat.not_lt_zero _)
  | fuel + 1, v, a, hv, hf => by
    show (decide (v = a) || (match pr v with | none => false | some u => und pr fuel u a)) = true ↔ _
    rw [Bool.or_eq_true, decide_eq_true_eq]
    constructor
    · rintro (h | h)
      · exact ⟨0, by rw [h]; rfl⟩
      · cases e : pr v with
        | none => rw [e] at h; cases h
        | some u =>
          rw [e] at h
          have hu := T.2 v u hv e
          obtain ⟨i, hi⟩ := (und_anc T fuel u a hu.1 (by omega)).mp h
          refine ⟨i + 1, ?_⟩
          show (match pr v with | none => none | some u => anc pr i u) = some a
          rw [e]
          exact hi
    · rintro ⟨i, hi⟩
      cases i with
      | zero => cases hi; exact Or.inl rfl
      | succ i =>
        have hi' : (match pr v with | none => none | some u => anc pr i u) = some a := hi
        cases e : pr v with
        | none => rw [e] at hi'; cases hi'
        | some u =>
          rw [e] at hi'
          have hu := T.2 v u hv e
          exact Or.inr ((und_anc T fuel u a hu.1 (by omega)).mpr ⟨i, hi'⟩)
/-- the sum under a node: its own, and its children's -/
theorem sUn_rec (T : Tr pr n rk) {v : Nat} (hv : v < n) : sUn pr ids n v = ids v + smI (fun c => bif decide (pr c = some v) then sUn pr ids n c else 0) n := by
  have un : ∀ u a, u < n → (und pr 13 u a = true ↔ ∃ i, anc pr i u = some a) := fun u a hu => und_anc T 13 u a hu (by have := T.1 u hu; omega)
  have e1 : smI (fun c => bif decide (pr c = some v) then sUn pr ids n c else 0) n = smI (fun u => bif anyb (fun c => decide (pr c = some v) && und pr 13 u c) n then ids u else 0) n := by
    rw [smI_congr (h := fun c => smI (fun u => bif decide (pr c = some v) && und pr 13 u c then ids u else 0) n) (fun c hc => ?_), smI_swap]
    · refine smI_congr (fun u hu => ?_)
      refine smI_uni n (fun a b ha hb h1 h2 => ?_)
      rw [Bool.and_eq_true, decide_eq_true_eq] at h1 h2
      obtain ⟨i, hi⟩ := (un u a hu).mp h1.2
      obtain ⟨j, hj⟩ := (un u b hu).mp h2.2
      have r1 := anc_rk T hu hi
      have r2 := anc_rk T hu hj
      have q1 := T.2 a v ha h1.1
      have q2 := T.2 b v hb h2.1
      have : i = j := by omega
      subst this
      rw [hi] at hj
      exact Option.some.inj hj
    · cases decide (pr c = some v)
      · exact (smI_0 (fun _ _ => rfl)).symm
      · rfl
  have e2 : ids v = smI (fun u => bif decide (u = v) then ids v else 0) n := by
    rw [smI_uni n (fun a b _ _ h1 h2 => by rw [decide_eq_true_eq] at h1 h2; omega), anyb_true.mpr ⟨v, hv, decide_eq_true rfl⟩]
    rfl
  rw [e1]
  rw [show ids v + smI (fun u => bif anyb (fun c => decide (pr c = some v) && und pr 13 u c) n then ids u else 0) n = smI (fun u => bif decide (u = v) then ids v else 0) n + smI (fun u => bif anyb (fun c => decide (pr c = some v) && und pr 13 u c) n then ids u else 0) n by rw [← e2], ← smI_add]
  unfold sUn
  refine smI_congr (fun u hu => ?_)
  have key : anyb (fun c => decide (pr c = some v) && und pr 13 u c) n = true ↔ (und pr 13 u v = true ∧ u ≠ v) := by
    rw [anyb_true]
    constructor
    · rintro ⟨c, hc, h⟩
      rw [Bool.and_eq_true, decide_eq_true_eq] at h
      obtain ⟨i, hi⟩ := (un u c hu).mp h.2
      have r := anc_rk T hu hi
      have q := T.2 c v hc h.1
      exact ⟨(un u v hu).mpr ⟨i + 1, anc_up hi h.1⟩, fun e => by rw [e] at r; omega⟩
    · rintro ⟨h, hne⟩
      obtain ⟨i, hi⟩ := (un u v hu).mp h
      cases i with
      | zero => cases hi; exact absurd rfl hne
      | succ i =>
        obtain ⟨c, h1, h2⟩ := anc_dn hi
        exact ⟨c, (anc_rk T hu h1).1, by rw [decide_eq_true h2, (un u c hu).mpr ⟨i, h1⟩]; rfl⟩
  by_cases c : u = v
  · subst c
    rw [(un u u hu).mpr ⟨0, rfl⟩, decide_eq_true rfl]
    have : anyb (fun c => decide (pr c = some u) && und pr 13 u c) n = false := Bool.eq_false_iff.mpr (fun h => (key.mp h).2 rfl)
    rw [this]
    exact (Int32.add_zero _).symm
  · rw [decide_eq_false c]
    cases e : und pr 13 u v with
    | true => rw [key.mpr ⟨e, c⟩]; exact (Int32.zero_add _).symm
    | false =>
      have : anyb (fun c => decide (pr c = some v) && und pr 13 u c) n = false := Bool.eq_false_iff.mpr (fun h => by rw [(key.mp h).1] at e; cases e)
      rw [this]
      rfl
end SUMS
