/-! pure words: iteration, counting, truth as an int -/
def itr {σ : Type} (f : Nat → σ → σ) : Nat → σ → σ
  | 0, s => s
  | n + 1, s => f n (itr f n s)
def cnt (p : Nat → Bool) : Nat → Nat
  | 0 => 0
  | n + 1 => bif p n then cnt p n + 1 else cnt p n
def anyb (p : Nat → Bool) : Nat → Bool
  | 0 => false
  | n + 1 => anyb p n || p n
/-- the least u below n with p -/
def fst? (p : Nat → Bool) : Nat → Option Nat
  | 0 => none
  | n + 1 => match fst? p n with
    | some u => some u
    | none => bif p n then some n else none
def bi (b : Bool) : Int32 := bif b then 1 else 0
theorem bi_01 (b : Bool) : bi b = 0 ∨ bi b = 1 := by cases b <;> simp [bi]
theorem bi_0 {b : Bool} (h : bi b = 0) : b = false := by
  cases b
  · rfl
  · exact absurd h (by decide)
theorem bi_1 {b : Bool} (h : ¬ bi b = 0) : b = true := by
  cases b
  · exact absurd rfl h
  · rfl
theorem cnt_le (p : Nat → Bool) : ∀ n, cnt p n ≤ n
  | 0 => Nat.le_refl _
  | n + 1 => by
    have := cnt_le p n
    unfold cnt
    cases p n <;> simp <;> omega
theorem cnt_congr {p q : Nat → Bool} : ∀ n, (∀ u, u < n → p u = q u) → cnt p n = cnt q n
  | 0, _ => rfl
  | n + 1, h => by
    unfold cnt
    rw [h n (by omega), cnt_congr n (fun u hu => h u (by omega))]
theorem anyb_true {p : Nat → Bool} : ∀ {n : Nat}, anyb p n = true ↔ ∃ u, u < n ∧ p u = true
  | 0 => by simp [anyb]
  | n + 1 => by
    unfold anyb
    rw [Bool.or_eq_true, anyb_true]
    constructor
    · rintro (⟨u, h1, h2⟩ | h)
      · exact ⟨u, by omega, h2⟩
      · exact ⟨n, by omega, h⟩
    · rintro ⟨u, h1, h2⟩
      rcases Nat.lt_or_ge u n with h | h
      · exact Or.inl ⟨u, h, h2⟩
      · have : u = n := by omega
        subst this
        exact Or.inr h2
theorem anyb_false {p : Nat → Bool} {n : Nat} (h : ∀ u, u < n → p u = false) : anyb p n = false := by
  cases e : anyb p n
  · rfl
  · obtain ⟨u, h1, h2⟩ := anyb_true.mp e
    rw [h u h1] at h2
    cases h2
theorem fst?_none {p : Nat → Bool} : ∀ {n : Nat}, (∀ u, u < n → p u = false) → fst? p n = none
  | 0, _ => rfl
  | n + 1, h => by
    unfold fst?
    rw [fst?_none (fun u hu => h u (by omega)), h n (by omega)]
    rfl
theorem fst?_some {p : Nat → Bool} {v : Nat} (hv : p v = true) (hl : ∀ u, u < v → p u = false) : ∀ {n : Nat}, v < n → fst? p n = some v
  | 0, h => absurd h (Nat.not_lt_zero _)
  | n + 1, h => by
    unfold fst?
    rcases Nat.lt_or_ge v n with h1 | h1
    · rw [fst?_some hv hl h1]
    · have : v = n := by omega
      subst this
      rw [fst?_none hl, hv]
      rfl
theorem neg1_nI (n : Nat) (h : n < 2 ^ 31) : ¬ (-1 : Int32) = nI n := by
  intro e
  have : (-1 : Int32).toInt = (nI n).toInt := by rw [e]
  rw [nI_toInt h] at this
  have h2 : (-1 : Int32).toInt = -1 := by decide
  omega
theorem am_Leq {g : am_G} {d nc ns m i : Nat} {L L' : am_L} {st : List Value} {M : am_M} {K : am_K} (h : L = L') (k : AW g d nc ns m i L' st M K) : AW g d nc ns m i L st M K := by subst h; exact k
theorem am_Meq {g : am_G} {d nc ns m i : Nat} {L : am_L} {st : List Value} {M M' : am_M} {K : am_K} (h : M = M') (k : AW g d nc ns m i L st M' K) : AW g d nc ns m i L st M K := by subst h; exact k
/-- a loop from the count v to n, its cells and locals by the count -/
theorem am_for {g : am_G} {d m h : Nat} {K : am_K} (n : Nat) (L : Nat → am_L) (M : Nat → am_M) (hb : ∀ v, v < n → AW g d 0 0 m h (L (v + 1)) [] (M (v + 1)) K → AW g d 0 0 m h (L v) [] (M v) K) (he : AW g d 0 0 m h (L n) [] (M n) K) : ∀ k v, v + k = n → AW g d 0 0 m h (L v) [] (M v) K
  | 0, v, e => by
    have : v = n := by omega
    subst this
    exact he
  | k + 1, v, e => hb v (by omega) (am_for n L M hb he k (v + 1) (by omega))
/-- the same, with a state that the loop carries -/
theorem am_forS {g : am_G} {d m h : Nat} {K : am_K} {σ : Type} (n : Nat) (L : Nat → σ → am_L) (M : Nat → σ → am_M) (I : Nat → σ → Prop) (hb : ∀ v s, v < n → I v s → (∀ s', I (v + 1) s' → AW g d 0 0 m h (L (v + 1) s') [] (M (v + 1) s') K) → AW g d 0 0 m h (L v s) [] (M v s) K) (he : ∀ s, I n s → AW g d 0 0 m h (L n s) [] (M n s) K) : ∀ k v s, v + k = n → I v s → AW g d 0 0 m h (L v s) [] (M v s) K
  | 0, v, s, e, hi => by
    have : v = n := by omega
    subst this
    exact he s hi
  | k + 1, v, s, e, hi => hb v s (by omega) hi (fun s' h' => am_forS n L M I hb he k (v + 1) s' (by omega) h')
/-- nodes -/
theorem nd_lt {S : am_S0} {n v : Nat} (hN : S 2 4 = nI n) (hn : n ≤ 12) (hv : v < n) : ¬ S 2 4 ≤ nI v := by rw [hN]; exact nI_ge hv (by omega)
theorem nd_ge {S : am_S0} {n : Nat} (hN : S 2 4 = nI n) (hn : n ≤ 12) : S 2 4 ≤ nI n := by rw [hN]; exact nI_le (Nat.le_refl _) (by omega)
theorem nm_lt {S : am_S0} {n v : Nat} (hN : S 38 0 = nI n) (hn : n ≤ 12) (hv : v < n) : ¬ S 38 0 ≤ nI v := by rw [hN]; exact nI_ge hv (by omega)
theorem nm_ge {S : am_S0} {n : Nat} (hN : S 38 0 = nI n) (hn : n ≤ 12) : S 38 0 ≤ nI n := by rw [hN]; exact nI_le (Nat.le_refl _) (by omega)
theorem am_forI {g : am_G} {d m h : Nat} {K : am_K} (n : Nat) (L : Nat → am_L) (M : Nat → am_M) (I : Nat → Prop) (hb : ∀ v, v < n → I v → (I (v + 1) → AW g d 0 0 m h (L (v + 1)) [] (M (v + 1)) K) → AW g d 0 0 m h (L v) [] (M v) K) (he : I n → AW g d 0 0 m h (L n) [] (M n) K) : ∀ k v, v + k = n → I v → AW g d 0 0 m h (L v) [] (M v) K
  | 0, v, e, hi => by
    have : v = n := by omega
    subst this
    exact he hi
  | k + 1, v, e, hi => hb v (by omega) hi (fun h' => am_forI n L M I hb he k (v + 1) (by omega) h')
/-- an edge's number, or NONE -/
def em (x : Option Nat) : Int32 := match x with
  | none => -1
  | some e => nI e
/-- the class's net: n nodes; E u w the number of the edge between u and w -/
def NetIs (S : am_S0) (n : Nat) (E : Nat → Nat → Option Nat) : Prop := S 2 4 = nI n ∧ n ≤ 12 ∧ (∀ u w, u < 12 → w < 12 → S (6 + u) w = em (E u w)) ∧ ∀ u w e, E u w = some e → e < 24
theorem NetIs.up {S : am_S0} {n : Nat} {E : Nat → Nat → Option Nat} {k : Nat} {f : Nat → Int32} (h : NetIs S n E) (hk : k ≠ 2 ∧ (k < 6 ∨ 18 ≤ k)) : NetIs (am_up S k f) n E := by
  obtain ⟨h1, h2, h3, h4⟩ := h
  refine ⟨?_, h2, fun u w hu hw => ?_, h4⟩
  · unfold am_up
    rw [if_neg (fun q => hk.1 q.symm)]
    exact h1
  · unfold am_up
    rw [if_neg (by omega)]
    exact h3 u w hu hw
theorem em_n1 {x : Option Nat} (h : ∀ e, x = some e → e < 24) : em x = -1 ↔ x = none := by
  cases x with
  | none => simp [em]
  | some e =>
    constructor
    · intro q
      exact absurd q.symm (neg1_nI e (by have := h e rfl; omega))
    · intro q
      cases q
theorem am_up_up (S : am_S0) (k : Nat) (f f2 : Nat → Int32) : am_up (am_up S k f) k f2 = am_up S k f2 := by
  funext j
  unfold am_up
  split <;> rfl
theorem am_up_self (S : am_S0) (k : Nat) : am_up S k (S k) = S := by
  funext j
  unfold am_up
  split
  · next h => rw [h]
  · rfl
theorem am_up_at (S : am_S0) (k : Nat) (f : Nat → Int32) : am_up S k f k = f := if_pos rfl
theorem am_up_ne (S : am_S0) {k j : Nat} (f : Nat → Int32) (h : j ≠ k) : am_up S k f j = S j := if_neg h
/-- the first n places become x -/
def fil (n : Nat) (x : Int32) (f : Nat → Int32) : Nat → Int32 := fun j => if j < n then x else f j
theorem fil_0 (x : Int32) (f : Nat → Int32) : fil 0 x f = f := rfl
theorem fil_s (n : Nat) (x : Int32) (f : Nat → Int32) : upd (fil n x f) n x = fil (n + 1) x f := by
  funext j
  unfold upd fil
  by_cases h : j = n
  · rw [if_pos h, if_pos (by omega)]
  · rw [if_neg h]
    by_cases h2 : j < n
    · rw [if_pos h2, if_pos (by omega)]
    · rw [if_neg h2, if_neg (by omega)]
/-- what one step from x out does to the distances -/
def rch (E : Nat → Nat → Option Nat) (x k : Nat) (f : Nat → Int32) : Nat → Int32 := fun u => if u < k ∧ (E x u).isSome = true ∧ f u = -1 then f x + 1 else f u
theorem rch_0 (E : Nat → Nat → Option Nat) (x : Nat) (f : Nat → Int32) : rch E x 0 f = f := by
  funext u
  unfold rch
  rw [if_neg (by omega)]
theorem rch_no {E : Nat → Nat → Option Nat} {x k : Nat} {f : Nat → Int32} (h : ¬ ((E x k).isSome = true ∧ f k = -1)) : rch E x (k + 1) f = rch E x k f := by
  funext u
  unfold rch
  by_cases hu : u = k
  · subst hu
    rw [if_neg (fun q => h q.2), if_neg (by omega)]
  · by_cases h2 : u < k ∧ (E x u).isSome = true ∧ f u = -1
    · rw [if_pos h2, if_pos ⟨by omega, h2.2⟩]
    · rw [if_neg h2, if_neg (fun q => h2 ⟨by omega, q.2⟩)]
theorem rch_yes {E : Nat → Nat → Option Nat} {x k : Nat} {f : Nat → Int32} (h : (E x k).isSome = true) (h1 : f k = -1) : upd (rch E x k f) k (f x + 1) = rch E x (k + 1) f := by
  funext u
  unfold upd rch
  by_cases hu : u = k
  · subst hu
    rw [if_pos rfl, if_pos ⟨by omega, h, h1⟩]
  · rw [if_neg hu]
    by_cases h2 : u < k ∧ (E x u).isSome = true ∧ f u = -1
    · rw [if_pos h2, if_pos ⟨by omega, h2.2⟩]
    · rw [if_neg h2, if_neg (fun q => h2 ⟨by omega, q.2⟩)]
theorem rch_at {E : Nat → Nat → Option Nat} {x k u : Nat} {f : Nat → Int32} (h : k ≤ u ∨ ¬ f u = -1) : rch E x k f u = f u := by
  unfold rch
  rw [if_neg (fun q => h.elim (fun h => absurd q.1 (by omega)) (fun h => h q.2.2))]
/-- the distances from a node, layer by layer, as the class measures them -/
def lvl (E : Nat → Nat → Option Nat) (n t : Nat) (k : Nat) (f : Nat → Int32) : Nat → Int32 := itr (fun v f => if f v = nI t then rch E v n f else f) k f
def msr (E : Nat → Nat → Option Nat) (n k : Nat) (f : Nat → Int32) : Nat → Int32 := itr (fun t f => lvl E n t n f) k f
def far0 (x : Nat) (f : Nat → Int32) : Nat → Int32 := upd (fil 12 (-1) f) x 0
