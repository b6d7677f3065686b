/-! pure mathematics: least of a fold, pigeons, walks, distances -/
theorem itr_inv {σ : Type} {f : Nat → σ → σ} (P : Nat → σ → Prop) : ∀ {n : Nat} {s : σ}, (∀ k s, k < n → P k s → P (k + 1) (f k s)) → P 0 s → P n (itr f n s)
  | 0, _, _, h => h
  | n + 1, s, hs, h => by
    rw [itr_s]
    exact hs n _ (by omega) (itr_inv P (n := n) (fun k s hk => hs k s (by omega)) h)
/-- the least of a fold: the first of the least stays -/
theorem argmin {T : Type} (cur : T → Int) (κ : Nat → Int) (ok : Nat → Bool) (mk : Nat → T) (f : Nat → T → T) (h1 : ∀ u t, ok u = true → κ u < cur t → f u t = mk u) (h2 : ∀ u t, ¬ (ok u = true ∧ κ u < cur t) → f u t = t) (hm : ∀ u, ok u = true → cur (mk u) = κ u) (t : T) : ∀ k, (itr f k t = t ∧ ∀ u, u < k → ok u = true → cur t ≤ κ u) ∨ ∃ u0, u0 < k ∧ ok u0 = true ∧ itr f k t = mk u0 ∧ κ u0 < cur t ∧ (∀ u, u < k → ok u = true → κ u0 ≤ κ u) ∧ ∀ u, u < u0 → ok u = true → κ u0 < κ u
  | 0 => Or.inl ⟨rfl, fun u h => absurd h (Nat.not_lt_zero _)⟩
  | k + 1 => by
    rcases argmin cur κ ok mk f h1 h2 hm t k with ⟨e, ha⟩ | ⟨u0, hu, ho, e, hl, ha, hb⟩
    · rw [itr_s, e]
      by_cases c : ok k = true ∧ κ k < cur t
      · refine Or.inr ⟨k, by omega, c.1, h1 k t c.1 c.2, c.2, fun u hu hk => ?_, fun u hu hk => ?_⟩
        · by_cases e9 : u = k
          · rw [e9]; exact Int.le_refl _
          · have := ha u (by omega) hk
            omega
        · have := ha u (by omega) hk
          omega
      · refine Or.inl ⟨h2 k t c, fun u hu hk => ?_⟩
        by_cases e9 : u = k
        · subst e9
          have : ¬ κ u < cur t := fun h => c ⟨hk, h⟩
          omega
        · exact ha u (by omega) hk
    · rw [itr_s, e]
      by_cases c : ok k = true ∧ κ k < cur (mk u0)
      · have c2 := c.2
        rw [hm u0 ho] at c2
        refine Or.inr ⟨k, by omega, c.1, h1 k _ c.1 c.2, by omega, fun u hu hk => ?_, fun u hu hk => ?_⟩
        · by_cases e9 : u = k
          · rw [e9]; exact Int.le_refl _
          · have := ha u (by omega) hk
            omega
        · have := ha u (by omega) hk
          omega
      · refine Or.inr ⟨u0, by omega, ho, h2 k _ c, hl, fun u hu hk => ?_, hb⟩
        by_cases e9 : u = k
        · subst e9
          have : ¬ κ u < cur (mk u0) := fun h => c ⟨hk, h⟩
          rw [hm u0 ho] at this
          omega
        · exact ha u (by omega) hk
/-- pigeons -/
theorem pigeon : ∀ (n k : Nat) (P : Nat → Nat → Prop), (∀ i, i < k → ∃ x, x < n ∧ P i x) → (∀ i j x, i < k → j < k → P i x → P j x → i = j) → k ≤ n
  | 0, k, P, h, _ => by
    rcases Nat.eq_zero_or_pos k with e | e
    · omega
    · obtain ⟨x, hx, _⟩ := h 0 e
      omega
  | n + 1, k, P, h, hi => by
    by_cases c : ∃ i, i < k ∧ P i n
    · obtain ⟨i0, hi0, hp0⟩ := c
      have ih := pigeon n (k - 1) (fun j x => P (if j < i0 then j else j + 1) x) (fun j hj => by
        have hj2 : (if j < i0 then j else j + 1) < k := by split <;> omega
        have hne : (if j < i0 then j else j + 1) ≠ i0 := by split <;> omega
        obtain ⟨x, hx, hp⟩ := h _ hj2
        refine ⟨x, ?_, hp⟩
        have : x ≠ n := fun e => hne (hi _ _ n hj2 hi0 (e ▸ hp) hp0)
        omega) (fun i j x h1 h2 p1 p2 => by
        have := hi _ _ x (by split <;> omega) (by split <;> omega) p1 p2
        split at this <;> split at this <;> omega)
      omega
    · have := pigeon n k P (fun i hik => by
        obtain ⟨x, hx, hp⟩ := h i hik
        refine ⟨x, ?_, hp⟩
        have : x ≠ n := fun e => c ⟨i, hik, e ▸ hp⟩
        omega) hi
      omega
/-- the net's edges -/
def GR (n q : Nat) (fa fb : Nat → Nat) : Prop := n ≤ 12 ∧ q ≤ 24 ∧ (∀ e, e < q → fa e < n ∧ fb e < n ∧ fa e ≠ fb e) ∧ ∀ e f, e < q → f < q → (fa e = fa f ∧ fb e = fb f ∨ fa e = fb f ∧ fb e = fa f) → e = f
theorem bt_comm (fa fb : Nat → Nat) (q u w : Nat) : bt fa fb q u w = bt fa fb q w u := by
  unfold bt
  congr 1
  funext e
  exact Bool.or_comm _ _
theorem bt_some {fa fb : Nat → Nat} {q u w e : Nat} (h : bt fa fb q u w = some e) : e < q ∧ (fa e = u ∧ fb e = w ∨ fa e = w ∧ fb e = u) := by
  have := fst?_lt h
  refine ⟨this.1, ?_⟩
  have h2 := this.2
  simp only [Bool.or_eq_true, Bool.and_eq_true, decide_eq_true_eq] at h2
  exact h2
section GRA
variable {n q : Nat} {fa fb : Nat → Nat}
theorem bt_of (G : GR n q fa fb) {e u w : Nat} (he : e < q) (h : fa e = u ∧ fb e = w ∨ fa e = w ∧ fb e = u) : bt fa fb q u w = some e := by
  unfold bt
  refine fst?_some ?_ (fun f hf => ?_) he
  · simp only [Bool.or_eq_true, Bool.and_eq_true, decide_eq_true_eq]
    exact h
  · cases c : (decide (fa f = u) && decide (fb f = w) || decide (fa f = w) && decide (fb f = u)) with
    | false => rfl
    | true =>
      simp only [Bool.or_eq_true, Bool.and_eq_true, decide_eq_true_eq] at c
      have := G.2.2.2 f e (by omega) he (by omega)
      omega
theorem bt_nd (G : GR n q fa fb) {u w : Nat} (h : (bt fa fb q u w).isSome = true) : u < n ∧ w < n ∧ u ≠ w := by
  obtain ⟨e, he⟩ := Option.isSome_iff_exists.mp h
  obtain ⟨h1, h2⟩ := bt_some he
  have := G.2.2.1 e h1
  omega
/-- walks -/
def wk (A : Nat → Nat → Option Nat) : Nat → Nat → Nat → Prop
  | 0, a, b => a = b
  | l + 1, a, b => ∃ u, (A a u).isSome = true ∧ wk A l u b
variable {A : Nat → Nat → Option Nat}
theorem wk_tr : ∀ {l m a b c : Nat}, wk A l a b → wk A m b c → wk A (l + m) a c
  | 0, m, a, b, c, h1, h2 => by
    have : a = b := h1
    subst this
    rw [Nat.zero_add]
    exact h2
  | l + 1, m, a, b, c, ⟨u, hu, h1⟩, h2 => by
    rw [Nat.add_right_comm]
    exact ⟨u, hu, wk_tr h1 h2⟩
theorem wk_1 {a b : Nat} (h : (A a b).isSome = true) : wk A 1 a b := ⟨b, h, rfl⟩
theorem wk_sym (hs : ∀ u w, A u w = A w u) : ∀ {l a b : Nat}, wk A l a b → wk A l b a
  | 0, a, b, h => Eq.symm (show a = b from h)
  | l + 1, a, b, ⟨u, hu, h⟩ => wk_tr (wk_sym hs h) (wk_1 (by rw [hs]; exact hu))
theorem wk_split : ∀ {l m a b : Nat}, wk A (l + m) a b → ∃ c, wk A l a c ∧ wk A m c b
  | 0, m, a, b, h => ⟨a, rfl, by rw [Nat.zero_add] at h; exact h⟩
  | l + 1, m, a, b, h => by
    rw [Nat.add_right_comm] at h
    obtain ⟨u, hu, h⟩ := h
    obtain ⟨c, h1, h2⟩ := wk_split h
    exact ⟨c, ⟨u, hu, h1⟩, h2⟩
theorem wk_nd (hA : ∀ u w, (A u w).isSome = true → u < n ∧ w < n ∧ u ≠ w) : ∀ {l a b : Nat}, a < n → wk A l a b → b < n
  | 0, a, b, ha, h => by
    have : a = b := h
    omega
  | l + 1, a, b, ha, ⟨u, hu, h⟩ => wk_nd hA (hA a u hu).2.1 h
/-- a walk over nodes below k -/
def Wk (A : Nat → Nat → Option Nat) (k l a b : Nat) : Prop := ∀ P : Nat → Nat → Nat → Prop, (∀ a, P 0 a a) → (∀ a b, (A a b).isSome = true → P 1 a b) → (∀ l m a c b, c < k → P l a c → P m c b → P (l + m) a b) → P l a b
theorem Wk.nil {k : Nat} (a : Nat) : Wk A k 0 a a := fun _ h _ _ => h a
theorem Wk.edge {k : Nat} (a b : Nat) (h : (A a b).isSome = true) : Wk A k 1 a b := fun _ _ h2 _ => h2 a b h
theorem Wk.cat {k : Nat} (l m a c b : Nat) (hc : c < k) (h1 : Wk A k l a c) (h2 : Wk A k m c b) : Wk A k (l + m) a b := fun P a1 a2 a3 => a3 l m a c b hc (h1 P a1 a2 a3) (h2 P a1 a2 a3)
theorem Wk.split {k l a b : Nat} (h : Wk A (k + 1) l a b) : (∃ l', l' ≤ l ∧ Wk A k l' a b) ∨ ∃ l1 l2, Wk A k l1 a k ∧ Wk A k l2 k b ∧ l1 + l2 ≤ l := by
  refine h (fun l a b => (∃ l', l' ≤ l ∧ Wk A k l' a b) ∨ ∃ l1 l2, Wk A k l1 a k ∧ Wk A k l2 k b ∧ l1 + l2 ≤ l) (fun a => Or.inl ⟨0, Nat.le_refl _, Wk.nil a⟩) (fun a b h => Or.inl ⟨1, Nat.le_refl _, Wk.edge a b h⟩) (fun l m a c b hc i1 i2 => ?_)
  · by_cases e : c = k
    · subst e
      have j1 : ∃ l1, l1 ≤ l ∧ Wk A c l1 a c := by
        rcases i1 with ⟨l', h, w⟩ | ⟨l1, l2, w1, w2, h⟩
        · exact ⟨l', h, w⟩
        · exact ⟨l1, by omega, w1⟩
      have j2 : ∃ l1, l1 ≤ m ∧ Wk A c l1 c b := by
        rcases i2 with ⟨l', h, w⟩ | ⟨l1, l2, w1, w2, h⟩
        · exact ⟨l', h, w⟩
        · exact ⟨l2, by omega, w2⟩
      obtain ⟨x, hx, wx⟩ := j1
      obtain ⟨y, hy, wy⟩ := j2
      exact Or.inr ⟨x, y, wx, wy, by omega⟩
    · have hck : c < k := by omega
      rcases i1 with ⟨l', h, w⟩ | ⟨l1, l2, w1, w2, h⟩
      · rcases i2 with ⟨m', h', w'⟩ | ⟨m1, m2, v1, v2, h'⟩
        · exact Or.inl ⟨l' + m', by omega, Wk.cat _ _ _ c _ hck w w'⟩
        · exact Or.inr ⟨l' + m1, m2, Wk.cat _ _ _ c _ hck w v1, v2, by omega⟩
      · rcases i2 with ⟨m', h', w'⟩ | ⟨m1, m2, v1, v2, h'⟩
        · exact Or.inr ⟨l1, l2 + m', w1, Wk.cat _ _ _ c _ hck w2 w', by omega⟩
        · exact Or.inr ⟨l1, m2, w1, v2, by omega⟩
theorem Wk.of (hA : ∀ u w, (A u w).isSome = true → u < n ∧ w < n ∧ u ≠ w) : ∀ {l a b : Nat}, wk A l a b → Wk A n l a b
  | 0, a, b, h => by
    have : a = b := h
    subst this
    exact Wk.nil a
  | l + 1, a, b, ⟨u, hu, h⟩ => by
    rw [Nat.add_comm]
    exact Wk.cat 1 l a u b (hA a u hu).2.1 (Wk.edge a u hu) (Wk.of hA h)
/-- the distances, in numbers -/
def gf1 (y a b : Nat) (G : Nat → Nat → Nat) : Nat → Nat → Nat := fun x z => if x = a ∧ z = b then min (G a b) (G a y + G y b) else G x z
def gin (A : Nat → Nat → Option Nat) (a b : Nat) : Nat := if a = b then 0 else if (A a b).isSome = true then 1 else 1000000
def gf (n k : Nat) (G : Nat → Nat → Nat) : Nat → Nat → Nat := itr (fun y => itr (fun a => itr (gf1 y a) n) n) k G
theorem gf1_le (y a b : Nat) (G : Nat → Nat → Nat) (x z : Nat) : gf1 y a b G x z ≤ G x z := by
  unfold gf1
  split
  · next h => rw [h.1, h.2]; exact Nat.min_le_left _ _
  · exact Nat.le_refl _
theorem gfi (y a : Nat) (G : Nat → Nat → Nat) : ∀ k, (∀ x z, itr (gf1 y a) k G x z ≤ G x z) ∧ ∀ b, b < k → itr (gf1 y a) k G a b ≤ G a y + G y b
  | 0 => ⟨fun _ _ => Nat.le_refl _, fun b h => absurd h (Nat.not_lt_zero _)⟩
  | k + 1 => by
    obtain ⟨h1, h2⟩ := gfi y a G k
    rw [itr_s]
    refine ⟨fun x z => Nat.le_trans (gf1_le _ _ _ _ _ _) (h1 x z), fun b hb => ?_⟩
    by_cases e : b = k
    · subst e
      have i1 := h1 a y
      have i2 := h1 y b
      generalize itr (gf1 y a) b G = G1 at i1 i2 ⊢
      unfold gf1
      rw [if_pos ⟨rfl, rfl⟩]
      exact Nat.le_trans (Nat.min_le_right _ _) (by omega)
    · exact Nat.le_trans (gf1_le _ _ _ _ _ _) (h2 b (by omega))
theorem gfo (y n : Nat) (G : Nat → Nat → Nat) : ∀ k, (∀ x z, itr (fun a => itr (gf1 y a) n) k G x z ≤ G x z) ∧ ∀ a b, a < k → b < n → itr (fun a => itr (gf1 y a) n) k G a b ≤ G a y + G y b
  | 0 => ⟨fun _ _ => Nat.le_refl _, fun a b h => absurd h (Nat.not_lt_zero _)⟩
  | k + 1 => by
    obtain ⟨h1, h2⟩ := gfo y n G k
    rw [itr_s]
    have i := gfi y k (itr (fun a => itr (gf1 y a) n) k G) n
    refine ⟨fun x z => Nat.le_trans (i.1 x z) (h1 x z), fun a b ha hb => ?_⟩
    by_cases e : a = k
    · subst e
      have := i.2 b hb
      have j1 := h1 a y
      have j2 := h1 y b
      omega
    · exact Nat.le_trans (i.1 a b) (h2 a b (by omega) hb)
theorem gf_up : ∀ k, k ≤ n → ∀ a b l, a < n → b < n → Wk A k l a b → gf n k (gin A) a b ≤ l
  | 0, _, a, b, l, ha, hb, w => by
    refine w (fun l a b => gin A a b ≤ l) (fun a => ?_) (fun a b h => ?_) (fun l m a c b hc => absurd hc (Nat.not_lt_zero _))
    · unfold gin; rw [if_pos rfl]; exact Nat.le_refl _
    · unfold gin
      split
      · omega
      · first | exact Nat.le_refl _ | (rw [if_pos h]; exact Nat.le_refl _)
  | k + 1, hk, a, b, l, ha, hb, w => by
    have ih := gf_up k (by omega)
    have g := gfo k n (gf n k (gin A)) n
    show itr (fun a => itr (gf1 k a) n) n (gf n k (gin A)) a b ≤ l
    rcases w.split with ⟨l', h, w'⟩ | ⟨l1, l2, w1, w2, h⟩
    · have := g.1 a b
      have := ih a b l' ha hb w'
      omega
    · have := g.2 a b ha hb
      have := ih a k l1 ha (by omega) w1
      have := ih k b l2 (by omega) hb w2
      omega
/-- what the numbers are: walks, or a million -/
def Snd (A : Nat → Nat → Option Nat) (n : Nat) (G : Nat → Nat → Nat) : Prop := ∀ a b, a < n → b < n → G a b ≤ 1000000 ∧ (G a b < 1000000 → wk A (G a b) a b)
theorem Snd.st {G : Nat → Nat → Nat} {y a b : Nat} (hy : y < n) (ha : a < n) (hb : b < n) (h : Snd A n G) : Snd A n (gf1 y a b G) := by
  intro x z hx hz
  unfold gf1
  split
  · next e =>
    rcases Nat.le_total (G a b) (G a y + G y b) with c | c
    · rw [Nat.min_eq_left c]
      have := h a b ha hb
      rw [e.1, e.2]
      exact this
    · rw [Nat.min_eq_right c]
      have h1 := h a b ha hb
      have h2 := h a y ha hy
      have h3 := h y b hy hb
      refine ⟨by omega, fun hl => ?_⟩
      rw [e.1, e.2]
      exact wk_tr (h2.2 (by omega)) (h3.2 (by omega))
  · exact h x z hx hz
theorem gf_snd : ∀ k, k ≤ n → Snd A n (gf n k (gin A)) := fun k hk => by
  refine itr_inv (fun _ G => Snd A n G) (fun y G hy h => ?_) ?_
  · refine itr_inv (fun _ G => Snd A n G) (fun a G ha h => ?_) h
    exact itr_inv (fun _ G => Snd A n G) (fun b G hb h => h.st (by omega) ha hb) h
  · intro a b ha hb
    unfold gin
    split
    · next e => exact ⟨by omega, fun _ => e⟩
    · split
      · next h => exact ⟨by omega, fun _ => wk_1 h⟩
      · exact ⟨Nat.le_refl _, fun h => absurd h (Nat.lt_irrefl _)⟩
/-- the model's array holds them -/
def Rep (n : Nat) (F : Nat → Int32) (G : Nat → Nat → Nat) : Prop := ∀ a b, a < n → b < n → F (12 * a + b) = nI (G a b) ∧ G a b ≤ 1000000
theorem Rep.st {F : Nat → Int32} {G : Nat → Nat → Nat} {y a b : Nat} (hn : n ≤ 12) (hy : y < n) (ha : a < n) (hb : b < n) (h : Rep n F G) : Rep n (fw1 y a b F) (gf1 y a b G) := by
  intro x z hx hz
  have h1 := h a b ha hb
  have h2 := h a y ha hy
  have h3 := h y b hy hb
  have h4 := h x z hx hz
  unfold fw1 gf1
  by_cases e : x = a ∧ z = b
  · rw [if_pos e, e.1, e.2, pk_us, h1.1, h2.1, h3.1, nI_add]
    refine ⟨?_, by have := Nat.min_le_left (G a b) (G a y + G y b); omega⟩
    by_cases c : G a y + G y b < G a b
    · rw [decide_eq_true ((nI_ltI (by omega) (by omega)).mpr c), Nat.min_eq_right (by omega)]
      rfl
    · rw [decide_eq_false (fun q => c ((nI_ltI (by omega) (by omega)).mp q)), Nat.min_eq_left (by omega)]
      rfl
  · rw [if_neg e, pk_un (by omega)]
    exact h4
theorem mdist_rep (hn : n ≤ 12) (f : Nat → Int32) : Rep n (mdist A n f) (gf n n (gin A)) := by
  unfold mdist fw gf
  have hini : Rep n (ini A n n f) (gin A) := by
    have key : ∀ k, k ≤ n → ∀ a b, a < k → b < n → ini A n k f (12 * a + b) = iv A a b := by
      intro k
      induction k with
      | zero => intro _ a b h; exact absurd h (Nat.not_lt_zero _)
      | succ k ih =>
        intro hk a b ha hb
        show itr (ini1 A k) n (ini A n k f) (12 * a + b) = _
        have inner : ∀ j, j ≤ n → ∀ x z, x ≤ k → z < n → itr (ini1 A k) j (ini A n k f) (12 * x + z) = if x = k ∧ z < j then iv A k z else ini A n k f (12 * x + z) := by
          intro j
          induction j with
          | zero => intro _ x z _ _; rw [if_neg (by omega)]; rfl
          | succ j ih2 =>
            intro hj x z hx hz
            rw [itr_s]
            show upd _ (12 * k + j) (iv A k j) (12 * x + z) = _
            by_cases e : x = k ∧ z = j
            · rw [e.1, e.2, pk_us, if_pos ⟨rfl, by omega⟩]
            · rw [pk_un (by omega), ih2 (by omega) x z hx hz]
              by_cases c : x = k ∧ z < j
              · rw [if_pos c, if_pos ⟨c.1, by omega⟩]
              · rw [if_neg c, if_neg (by omega)]
        rw [inner n (Nat.le_refl _) a b (by omega) hb]
        by_cases c : a = k ∧ b < n
        · rw [if_pos c, c.1]
        · rw [if_neg c]
          exact ih (by omega) a b (by omega) hb
    intro a b ha hb
    rw [key n (Nat.le_refl _) a b ha hb]
    unfold iv gin
    by_cases e : a = b
    · rw [if_pos e, decide_eq_true e]
      exact ⟨rfl, by omega⟩
    · rw [if_neg e, decide_eq_false e]
      by_cases c : (A a b).isSome = true
      · rw [if_pos c, c]
        exact ⟨rfl, by omega⟩
      · rw [if_neg c, Bool.eq_false_iff.mpr c]
        exact ⟨rfl, Nat.le_refl _⟩
  have go : ∀ k, k ≤ n → Rep n (itr (fun y => itr (fun a => itr (fw1 y a) n) n) k (ini A n n f)) (itr (fun y => itr (fun a => itr (gf1 y a) n) n) k (gin A)) := by
    intro k
    induction k with
    | zero => intro _; exact hini
    | succ k ih =>
      intro hk
      have ih := ih (by omega)
      rw [itr_s, itr_s]
      generalize itr (fun y => itr (fun a => itr (fw1 y a) n) n) k (ini A n n f) = F at ih ⊢
      generalize itr (fun y => itr (fun a => itr (gf1 y a) n) n) k (gin A) = G at ih ⊢
      have o : ∀ a, a ≤ n → Rep n (itr (fun a => itr (fw1 k a) n) a F) (itr (fun a => itr (gf1 k a) n) a G) := by
        intro a
        induction a with
        | zero => intro _; exact ih
        | succ a ih2 =>
          intro ha
          have ih2 := ih2 (by omega)
          rw [itr_s, itr_s]
          generalize itr (fun a => itr (fw1 k a) n) a F = F2 at ih2 ⊢
          generalize itr (fun a => itr (gf1 k a) n) a G = G2 at ih2 ⊢
          have i : ∀ b, b ≤ n → Rep n (itr (fw1 k a) b F2) (itr (gf1 k a) b G2) := by
            intro b
            induction b with
            | zero => intro _; exact ih2
            | succ b ih3 =>
              intro hb
              rw [itr_s, itr_s]
              exact (ih3 (by omega)).st hn (by omega) (by omega) (by omega)
          exact i n (Nat.le_refl _)
      exact o n (Nat.le_refl _)
  exact go n (Nat.le_refl _)
/-- distances of a net -/
def dst (A : Nat → Nat → Option Nat) (n : Nat) : Nat → Nat → Nat := gf n n (gin A)
theorem dst_le (hA : ∀ u w, (A u w).isSome = true → u < n ∧ w < n ∧ u ≠ w) {a b l : Nat} (ha : a < n) (hb : b < n) (h : wk A l a b) : dst A n a b ≤ l := gf_up n (Nat.le_refl _) a b l ha hb (Wk.of hA h)
theorem dst_wk {a b : Nat} (ha : a < n) (hb : b < n) (h : dst A n a b < 1000000) : wk A (dst A n a b) a b := (gf_snd n (Nat.le_refl _) a b ha hb).2 h
theorem dst_max {a b : Nat} (ha : a < n) (hb : b < n) : dst A n a b ≤ 1000000 := (gf_snd n (Nat.le_refl _) a b ha hb).1
/-- a shortest walk is short -/
theorem wk_short (hA : ∀ u w, (A u w).isSome = true → u < n ∧ w < n ∧ u ≠ w) {a b : Nat} (ha : a < n) : ∀ d, wk A d a b → (∀ l, wk A l a b → d ≤ l) → d < n := fun d h hmin => by
  refine pigeon n (d + 1) (fun i x => wk A i a x ∧ wk A (d - i) x b) (fun i hi => ?_) (fun i j x hi hj h1 h2 => ?_)
  · have h' : wk A (i + (d - i)) a b := by rw [show i + (d - i) = d by omega]; exact h
    obtain ⟨c, h1, h2⟩ := wk_split h'
    exact ⟨c, wk_nd hA ha h1, h1, h2⟩
  · have a1 := hmin _ (wk_tr h1.1 h2.2)
    have a2 := hmin _ (wk_tr h2.1 h1.2)
    omega
theorem dst_lt (hA : ∀ u w, (A u w).isSome = true → u < n ∧ w < n ∧ u ≠ w) {a b : Nat} (ha : a < n) (hb : b < n) (h : dst A n a b < 1000000) : dst A n a b < n := wk_short hA ha _ (dst_wk ha hb h) (fun l hl => dst_le hA ha hb hl)
theorem wk_least : ∀ (l : Nat) {a b : Nat}, wk A l a b → ∃ d, d ≤ l ∧ wk A d a b ∧ ∀ m, wk A m a b → d ≤ m := by
  intro l
  induction l using Nat.strongRecOn with
  | ind l ih =>
    intro a b h
    by_cases c : ∃ m, m < l ∧ wk A m a b
    · obtain ⟨m, hm, hw⟩ := c
      obtain ⟨d, h1, h2, h3⟩ := ih m hm hw
      exact ⟨d, by omega, h2, h3⟩
    · exact ⟨l, Nat.le_refl _, h, fun m hm => Nat.not_lt.mp (fun q => c ⟨m, q, hm⟩)⟩
theorem dst_re (hA : ∀ u w, (A u w).isSome = true → u < n ∧ w < n ∧ u ≠ w) (hn : n ≤ 12) {a b l : Nat} (ha : a < n) (hb : b < n) (h : wk A l a b) : dst A n a b < n := by
  obtain ⟨d, h1, h2, h3⟩ := wk_least l h
  have := wk_short hA ha d h2 h3
  have := dst_le hA ha hb h2
  omega
end GRA
