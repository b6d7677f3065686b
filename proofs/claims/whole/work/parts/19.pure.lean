/-! pure words: iteration, counting, truth as an int -/
def itr {σ : Type} (f : Nat → σ → σ) : Nat → σ → σ
  | 0, s => s
  | n + 1, s => f n (itr f n s)
def cnt (p : Nat → Bool) : Nat → Nat
  | 0 => 0
  | n + 1 => bif p n then cnt p n + 1 else cnt p n
def anyb (p : Nat → Bool) : Nat → Bool
  | 0 => false
  | n + 1 => anyb p n || p n
/-- the least u below n with p -/
def fst? (p : Nat → Bool) : Nat → Option Nat
  | 0 => none
  | n + 1 => match fst? p n with
    | some u => some u
    | none => bif p n then some n else none
def bi (b : Bool) : Int32 := bif b then 1 else 0
theorem bi_01 (b : Bool) : bi b = 0 ∨ bi b = 1 := by cases b <;> simp [bi]
theorem bi_0 {b : Bool} (h : bi b = 0) : b = false := by
  cases b
  · rfl
  · exact absurd h (by decide)
theorem bi_1 {b : Bool} (h : ¬ bi b = 0) : b = true := by
  cases b
  · exact absurd rfl h
  · rfl
theorem cnt_le (p : Nat → Bool) : ∀ n, cnt p n ≤ n
  | 0 => Nat.le_refl _
  | n + 1 => by
    have := cnt_le p n
    unfold cnt
    cases p n <;> simp <;> omega
theorem cnt_congr {p q : Nat → Bool} : ∀ n, (∀ u, u < n → p u = q u) → cnt p n = cnt q n
  | 0, _ => rfl
  | n + 1, h => by
    unfold cnt
    rw [h n (by omega), cnt_congr n (fun u hu => h u (by omega))]
theorem anyb_true {p : Nat → Bool} : ∀ {n : Nat}, anyb p n = true ↔ ∃ u, u < n ∧ p u = true
  | 0 => by simp [anyb]
  | n + 1 => by
    unfold anyb
    rw [Bool.or_eq_true, anyb_true]
    constructor
    · rintro (⟨u, h1, h2⟩ | h)
      · exact ⟨u, by omega, h2⟩
      · exact ⟨n, by omega, h⟩
    · rintro ⟨u, h1, h2⟩
      rcases Nat.lt_or_ge u n with h | h
      · exact Or.inl ⟨u, h, h2⟩
      · have : u = n := by omega
        subst this
        exact Or.inr h2
theorem anyb_false {p : Nat → Bool} {n : Nat} (h : ∀ u, u < n → p u = false) : anyb p n = false := by
  cases e : anyb p n
  · rfl
  · obtain ⟨u, h1, h2⟩ := anyb_true.mp e
    rw [h u h1] at h2
    cases h2
theorem fst?_none {p : Nat → Bool} : ∀ {n : Nat}, (∀ u, u < n → p u = false) → fst? p n = none
  | 0, _ => rfl
  | n + 1, h => by
    unfold fst?
    rw [fst?_none (fun u hu => h u (by omega)), h n (by omega)]
    rfl
theorem fst?_some {p : Nat → Bool} {v : Nat} (hv : p v = true) (hl : ∀ u, u < v → p u = false) : ∀ {n : Nat}, v < n → fst? p n = some v
  | 0, h => absurd h (Nat.not_lt_zero _)
  | n + 1, h => by
    unfold fst?
    rcases Nat.lt_or_ge v n with h1 | h1
    · rw [fst?_some hv hl h1]
    · have : v = n := by omega
      subst this
      rw [fst?_none hl, hv]
      rfl
theorem neg1_nI (n : Nat) (h : n < 2 ^ 31) : ¬ (-1 : Int32) = nI n := by
  intro e
  have : (-1 : Int32).toInt = (nI n).toInt := by rw [e]
  rw [nI_toInt h] at this
  have h2 : (-1 : Int32).toInt = -1 := by decide
  omega
theorem am_Leq {g : am_G} {d nc ns m i : Nat} {L L' : am_L} {st : List Value} {M : am_M} {K : am_K} (h : L = L') (k : AW g d nc ns m i L' st M K) : AW g d nc ns m i L st M K := by subst h; exact k
theorem am_Meq {g : am_G} {d nc ns m i : Nat} {L : am_L} {st : List Value} {M M' : am_M} {K : am_K} (h : M = M') (k : AW g d nc ns m i L st M' K) : AW g d nc ns m i L st M K := by subst h; exact k
/-- a loop from the count v to n, its cells and locals by the count -/
theorem am_for {g : am_G} {d m h : Nat} {K : am_K} (n : Nat) (L : Nat → am_L) (M : Nat → am_M) (hb : ∀ v, v < n → AW g d 0 0 m h (L (v + 1)) [] (M (v + 1)) K → AW g d 0 0 m h (L v) [] (M v) K) (he : AW g d 0 0 m h (L n) [] (M n) K) : ∀ k v, v + k = n → AW g d 0 0 m h (L v) [] (M v) K
  | 0, v, e => by
    have : v = n := by omega
    subst this
    exact he
  | k + 1, v, e => hb v (by omega) (am_for n L M hb he k (v + 1) (by omega))
/-- the same, with a state that the loop carries -/
theorem am_forS {g : am_G} {d m h : Nat} {K : am_K} {σ : Type} (n : Nat) (L : Nat → σ → am_L) (M : Nat → σ → am_M) (I : Nat → σ → Prop) (hb : ∀ v s, v < n → I v s → (∀ s', I (v + 1) s' → AW g d 0 0 m h (L (v + 1) s') [] (M (v + 1) s') K) → AW g d 0 0 m h (L v s) [] (M v s) K) (he : ∀ s, I n s → AW g d 0 0 m h (L n s) [] (M n s) K) : ∀ k v s, v + k = n → I v s → AW g d 0 0 m h (L v s) [] (M v s) K
  | 0, v, s, e, hi => by
    have : v = n := by omega
    subst this
    exact he s hi
  | k + 1, v, s, e, hi => hb v s (by omega) hi (fun s' h' => am_forS n L M I hb he k (v + 1) s' (by omega) h')
/-- nodes -/
theorem nd_lt {S : am_S0} {n v : Nat} (hN : S 2 4 = nI n) (hn : n ≤ 12) (hv : v < n) : ¬ S 2 4 ≤ nI v := by rw [hN]; exact nI_ge hv (by omega)
theorem nd_ge {S : am_S0} {n : Nat} (hN : S 2 4 = nI n) (hn : n ≤ 12) : S 2 4 ≤ nI n := by rw [hN]; exact nI_le (Nat.le_refl _) (by omega)
theorem nm_lt {S : am_S0} {n v : Nat} (hN : S 38 0 = nI n) (hn : n ≤ 12) (hv : v < n) : ¬ S 38 0 ≤ nI v := by rw [hN]; exact nI_ge hv (by omega)
theorem nm_ge {S : am_S0} {n : Nat} (hN : S 38 0 = nI n) (hn : n ≤ 12) : S 38 0 ≤ nI n := by rw [hN]; exact nI_le (Nat.le_refl _) (by omega)
def nb (S : am_S0) (u w : Nat) : Bool := !decide (S (6 + u) w = -1)
