/-! distances: the class's and the model's -/
section DIS
variable {n q : Nat} {fa fb : Nat → Nat} {A : Nat → Nat → Option Nat}
def DI (A : Nat → Nat → Option Nat) (n : Nat) (D : Nat → Nat → Nat) : Prop := (∀ a, a < n → D a a = 0) ∧ (∀ a b, a < n → b < n → D a b = 0 → a = b) ∧ (∀ a b, a < n → b < n → D a b = D b a) ∧ (∀ a u b, b < n → (A a u).isSome = true → D a b ≤ D u b + 1) ∧ (∀ a b l, a < n → b < n → D a b = l + 1 → ∃ u, (A a u).isSome = true ∧ D u b = l) ∧ ∀ a b, a < n → b < n → D a b < n
/-- the net's neighbours are nodes, and each other's -/
def Nb (A : Nat → Nat → Option Nat) (n : Nat) : Prop := (∀ u w, (A u w).isSome = true → u < n ∧ w < n ∧ u ≠ w) ∧ ∀ u w, A u w = A w u
theorem GR.nb (G : GR n q fa fb) : Nb (bt fa fb q) n := ⟨fun _ _ h => bt_nd G h, bt_comm fa fb q⟩
theorem dst_self (hB : Nb A n) {a : Nat} (ha : a < n) : dst A n a a = 0 := Nat.le_zero.mp (dst_le hB.1 ha ha (l := 0) rfl)
theorem dst_zero {a b : Nat} (ha : a < n) (hb : b < n) (h : dst A n a b = 0) : a = b := by
  have := dst_wk (A := A) ha hb (by omega)
  rw [h] at this
  exact this
theorem dst_sym1 (hB : Nb A n) {a b : Nat} (ha : a < n) (hb : b < n) : dst A n a b ≤ dst A n b a := by
  rcases Nat.lt_or_ge (dst A n b a) 1000000 with h | h
  · exact dst_le hB.1 ha hb (wk_sym hB.2 (dst_wk hb ha h))
  · exact Nat.le_trans (dst_max ha hb) h
theorem dst_sym (hB : Nb A n) {a b : Nat} (ha : a < n) (hb : b < n) : dst A n a b = dst A n b a := Nat.le_antisymm (dst_sym1 hB ha hb) (dst_sym1 hB hb ha)
theorem dst_nb (hB : Nb A n) {a u b : Nat} (hb : b < n) (h : (A a u).isSome = true) : dst A n a b ≤ dst A n u b + 1 := by
  have hn := hB.1 a u h
  rcases Nat.lt_or_ge (dst A n u b) 1000000 with c | c
  · rw [Nat.add_comm]
    exact dst_le hB.1 hn.1 hb (wk_tr (wk_1 h) (dst_wk hn.2.1 hb c))
  · exact Nat.le_trans (dst_max hn.1 hb) (by omega)
theorem dst_dn (hB : Nb A n) {a b l : Nat} (ha : a < n) (hb : b < n) (hl : dst A n a b < 1000000) (h : dst A n a b = l + 1) : ∃ u, (A a u).isSome = true ∧ dst A n u b = l := by
  have w := dst_wk ha hb hl
  rw [h] at w
  obtain ⟨u, hu, w⟩ := w
  have hn := hB.1 a u hu
  have h1 := dst_le hB.1 hn.2.1 hb w
  have h2 := dst_nb hB hb hu
  exact ⟨u, hu, by omega⟩
/-- all hangs together -/
def Con (A : Nat → Nat → Option Nat) (n : Nat) : Prop := ∀ v, v < n → dst A n 0 v < 1000000
theorem Con.di (hn : n ≤ 12) (hB : Nb A n) (C : Con A n) : DI A n (dst A n) := by
  have all : ∀ a b, a < n → b < n → dst A n a b < n := fun a b ha hb => by
    have h0 : 0 < n := by omega
    exact dst_re hB.1 hn ha hb (wk_tr (wk_sym hB.2 (dst_wk h0 ha (C a ha))) (dst_wk h0 hb (C b hb)))
  exact ⟨fun a ha => dst_self hB ha, fun a b ha hb => dst_zero ha hb, fun a b ha hb => dst_sym hB ha hb, fun a u b hb h => dst_nb hB hb h, fun a b l ha hb h => dst_dn hB ha hb (by have := all a b ha hb; omega) h, all⟩
/-- the class's layers -/
theorem lvl_dst (hn : n ≤ 12) (hB : Nb A n) {x t : Nat} (hx : x < n) (ht : t < n) {F : Nat → Int32} (h : ∀ v, v < n → F v = if dst A n x v ≤ t then nI (dst A n x v) else -1) : ∀ k, k ≤ n → ∀ u, u < n → lvl A n t k F u = if dst A n x u ≤ t then nI (dst A n x u) else bif anyb (fun v => decide (dst A n x v = t) && (A v u).isSome) k then nI (t + 1) else -1
  | 0, _, u, hu => by
    rw [lvl_0, h u hu]
    rfl
  | k + 1, hk, u, hu => by
    have ih := lvl_dst hn hB hx ht h k (by omega)
    rw [lvl_s]
    have ihu := ih u hu
    have ihk := ih k (by omega)
    generalize lvl A n t k F = C at ih ihu ihk ⊢
    have hck : C k = nI t ↔ dst A n x k = t := by
      rw [ihk]
      have := dst_max (A := A) hx (show k < n by omega)
      by_cases c : dst A n x k ≤ t
      · rw [if_pos c, nI_eq (by omega) (by omega)]
      · rw [if_neg c]
        refine ⟨fun q => ?_, fun q => absurd q (by omega)⟩
        revert q
        cases anyb (fun v => decide (dst A n x v = t) && (A v k).isSome) k
        · intro q
          exact absurd q (neg1_nI t (by omega))
        · intro q
          have := (nI_eq (by omega) (by omega)).mp q
          omega
    show (if C k = nI t then rch A k n C else C) u = if _ then _ else bif (anyb _ k || (decide (dst A n x k = t) && (A k u).isSome)) then _ else _
    by_cases c : dst A n x k = t
    · rw [if_pos (hck.mpr c), decide_eq_true c, Bool.true_and]
      unfold rch
      by_cases c2 : dst A n x u ≤ t
      · rw [if_pos c2] at ihu ⊢
        rw [if_neg (fun q => absurd (ihu ▸ q.2.2 : nI (dst A n x u) = -1) (fun e => neg1_nI _ (by omega) e.symm)), ihu]
      · rw [if_neg c2] at ihu ⊢
        cases e1 : anyb (fun v => decide (dst A n x v = t) && (A v u).isSome) k with
        | true =>
          rw [e1] at ihu
          have ihu2 : C u = nI (t + 1) := ihu
          rw [if_neg (fun q => absurd (ihu2.symm.trans q.2.2) (fun e => neg1_nI _ (by omega) e.symm)), ihu2]
          rfl
        | false =>
          rw [e1] at ihu
          cases e2 : (A k u).isSome with
          | true => rw [if_pos ⟨hu, rfl, ihu⟩, hck.mpr c, nI_1]; rfl
          | false => rw [if_neg (fun q => by cases q.2.1), ihu]; rfl
    · rw [if_neg (fun q => c (hck.mp q)), decide_eq_false c, Bool.false_and, Bool.or_false, ihu]
theorem msr_dst (hn : n ≤ 12) (hB : Nb A n) {x : Nat} (hx : x < n) (f : Nat → Int32) : ∀ t, t ≤ n → ∀ v, v < n → msr A n t (far0 x f) v = if dst A n x v ≤ t then nI (dst A n x v) else -1
  | 0, _, v, hv => by
    show upd (fil 12 (-1) f) x 0 v = _
    by_cases c : v = x
    · subst c
      rw [pk_us, dst_self hB hv]
      rfl
    · rw [pk_un c, if_neg (fun q => c (dst_zero hx hv (Nat.le_zero.mp q)).symm)]
      unfold fil
      rw [if_pos (by omega)]
  | t + 1, ht, v, hv => by
    rw [msr_s, lvl_dst hn hB hx (by omega) (msr_dst hn hB hx f t (by omega)) n (Nat.le_refl _) v hv]
    by_cases c : dst A n x v ≤ t
    · rw [if_pos c, if_pos (by omega)]
    · rw [if_neg c]
      by_cases c2 : dst A n x v ≤ t + 1
      · rw [if_pos c2]
        have c3 : dst A n x v = t + 1 := by omega
        have hs := dst_sym hB hx hv
        obtain ⟨u, hu, h2⟩ := dst_dn hB hv hx (by omega) (show dst A n v x = t + 1 by omega)
        have hun := (hB.1 v u hu).2.1
        rw [anyb_true.mpr ⟨u, hun, by rw [Bool.and_eq_true, decide_eq_true_eq]; exact ⟨by rw [dst_sym hB hx hun]; exact h2, by rw [hB.2]; exact hu⟩⟩, c3]
        rfl
      · rw [if_neg c2, anyb_false (fun u hu => ?_)]
        · rfl
        · cases e : (decide (dst A n x u = t) && (A u v).isSome) with
          | false => rfl
          | true =>
            rw [Bool.and_eq_true, decide_eq_true_eq] at e
            have h1 := dst_nb hB hx (show (A v u).isSome = true by rw [hB.2]; exact e.2)
            rw [dst_sym hB hv hx, dst_sym hB hu hx] at h1
            omega
theorem con_cls (hn : n ≤ 12) (hB : Nb A n) (h0 : 0 < n) (f : Nat → Int32) : anyb (fun v => decide (msr A n n (far0 0 f) v = -1)) n = false ↔ Con A n := by
  constructor
  · intro h v hv
    rcases Nat.lt_or_ge (dst A n 0 v) 1000000 with c | c
    · exact c
    · have : anyb (fun v => decide (msr A n n (far0 0 f) v = -1)) n = true := anyb_true.mpr ⟨v, hv, by
        rw [decide_eq_true_eq, msr_dst hn hB h0 f n (Nat.le_refl _) v hv, if_neg (by omega)]⟩
      rw [h] at this
      cases this
  · intro C
    refine anyb_false (fun v hv => ?_)
    rw [decide_eq_false_iff_not, msr_dst hn hB h0 f n (Nat.le_refl _) v hv]
    have := dst_lt hB.1 h0 hv (C v hv)
    rw [if_pos (by omega)]
    intro q
    exact neg1_nI _ (by omega) q.symm
theorem con_mod (hn : n ≤ 12) (h0 : 0 < n) (f : Nat → Int32) : anyb (fun v => !decide (mdist A n f v < 1000000)) n = false ↔ Con A n := by
  have hr : ∀ v, v < n → (mdist A n f v < 1000000 ↔ dst A n 0 v < 1000000) := fun v hv => by
    have h := mdist_rep (A := A) hn f 0 v h0 hv
    rw [Nat.mul_zero, Nat.zero_add] at h
    rw [h.1, show (1000000 : Int32) = nI 1000000 from rfl, nI_ltI (by have := h.2; omega) (by decide)]
    exact Iff.rfl
  constructor
  · intro h v hv
    rw [← hr v hv]
    cases e : decide (mdist A n f v < 1000000) with
    | true => exact of_decide_eq_true e
    | false =>
      have : anyb (fun v => !decide (mdist A n f v < 1000000)) n = true := anyb_true.mpr ⟨v, hv, by rw [e]; rfl⟩
      rw [h] at this
      cases this
  · intro C
    refine anyb_false (fun v hv => ?_)
    rw [decide_eq_true ((hr v hv).mpr (C v hv))]
    rfl
/-- identities all different -/
def Dis (ids : Nat → Int32) (n : Nat) : Prop := ∀ a b, a < n → b < n → ids a = ids b → a = b
theorem twn_dis (ids : Nat → Int32) (n : Nat) : twn ids n = false ↔ Dis ids n := by
  unfold twn
  constructor
  · intro h a b ha hb e
    have key : ∀ a b, a < n → b < n → a < b → ids a = ids b → False := fun a b ha hb hl e => by
      have : anyb (fun a => anyb (fun b => decide (a < b) && decide (ids a = ids b)) n) n = true := anyb_true.mpr ⟨a, ha, anyb_true.mpr ⟨b, hb, by rw [decide_eq_true hl, decide_eq_true e]; rfl⟩⟩
      rw [h] at this
      cases this
    rcases Nat.lt_trichotomy a b with c | c | c
    · exact (key a b ha hb c e).elim
    · exact c
    · exact (key b a hb ha c e.symm).elim
  · intro h
    refine anyb_false (fun a ha => anyb_false (fun b hb => ?_))
    by_cases c : a < b
    · rw [decide_eq_false (fun q => absurd (h a b ha hb q) (by omega)), Bool.and_false]
    · rw [decide_eq_false c, Bool.false_and]
theorem twm_dis (ids : Nat → Int32) (n : Nat) : anyb (fun a => anyb (fun b => decide (b < a) && decide (ids a = ids b)) n) n = false ↔ Dis ids n := by
  constructor
  · intro h a b ha hb e
    have key : ∀ a b, a < n → b < n → b < a → ids a = ids b → False := fun a b ha hb hl e => by
      have : anyb (fun a => anyb (fun b => decide (b < a) && decide (ids a = ids b)) n) n = true := anyb_true.mpr ⟨a, ha, anyb_true.mpr ⟨b, hb, by rw [decide_eq_true hl, decide_eq_true e]; rfl⟩⟩
      rw [h] at this
      cases this
    rcases Nat.lt_trichotomy a b with c | c | c
    · exact (key b a hb ha c e.symm).elim
    · exact c
    · exact (key a b ha hb c e).elim
  · intro h
    refine anyb_false (fun a ha => anyb_false (fun b hb => ?_))
    by_cases c : b < a
    · rw [decide_eq_false (fun q => absurd (h a b ha hb q) (by omega)), Bool.and_false]
    · rw [decide_eq_false c, Bool.false_and]
theorem ready_eq (hn : n ≤ 12) (hB : Nb A n) (h0 : 0 < n) {S : am_S0} {ids f : Nat → Int32} (hi : ∀ v, v < n → S 3 v = ids v) : rdy S A n = mrd A n ids f ∧ (mrd A n ids f = 0 → Con A n ∧ Dis ids n) := by
  have hd : Dis (S 3) n ↔ Dis ids n := ⟨fun h a b ha hb e => h a b ha hb (by rw [hi a ha, hi b hb]; exact e), fun h a b ha hb e => h a b ha hb (by rw [← hi a ha, ← hi b hb]; exact e)⟩
  have e1 : anyb (fun v => decide (msr A n n (far0 0 (S 18)) v = -1)) n = anyb (fun v => !decide (mdist A n f v < 1000000)) n := by
    rw [Bool.eq_iff_iff]
    have a := con_cls hn hB h0 (S 18)
    have b := con_mod (A := A) hn h0 f
    rw [← Bool.not_eq_false, ← Bool.not_eq_false, a, b]
  have e2 : twn (S 3) n = anyb (fun a => anyb (fun b => decide (b < a) && decide (ids a = ids b)) n) n := by
    rw [Bool.eq_iff_iff, ← Bool.not_eq_false, ← Bool.not_eq_false, twn_dis, twm_dis, hd]
  refine ⟨by unfold rdy mrd; rw [e1, e2], fun h => ?_⟩
  unfold mrd at h
  cases c1 : anyb (fun v => !decide (mdist A n f v < 1000000)) n with
  | true => rw [c1] at h; cases h
  | false =>
    rw [c1] at h
    cases c2 : anyb (fun a => anyb (fun b => decide (b < a) && decide (ids a = ids b)) n) n with
    | true => rw [c2] at h; cases h
    | false => exact ⟨(con_mod hn h0 f).mp c1, (twm_dis ids n).mp c2⟩
/-- the tree -/
theorem fst?_congr {p p2 : Nat → Bool} : ∀ {n : Nat}, (∀ u, u < n → p u = p2 u) → fst? p n = fst? p2 n
  | 0, _ => rfl
  | n + 1, h => by
    unfold fst?
    rw [fst?_congr (n := n) (fun u hu => h u (by omega)), h n (by omega)]
def ptr (A : Nat → Nat → Option Nat) (n : Nat) (D : Nat → Nat → Nat) (rt v : Nat) : Option Nat := bif decide (v = rt) then none else fst? (fun u => (A v u).isSome && decide (D rt u + 1 = D rt v)) n
theorem nrr_ptr (hn : n ≤ 12) (hB : Nb A n) (C : Con A n) {rt : Nat} (hr : rt < n) (f : Nat → Int32) {v : Nat} (hv : v < n) : nrr A n (msr A n n (far0 rt f)) v = ptr A n (dst A n) rt v := by
  have I := C.di hn hB
  have hF : ∀ u, u < n → msr A n n (far0 rt f) u = nI (dst A n rt u) := fun u hu => by
    rw [msr_dst hn hB hr f n (Nat.le_refl _) u hu, if_pos (Nat.le_of_lt (I.2.2.2.2.2 rt u hr hu))]
  unfold nrr ptr
  rw [hF v hv]
  have hb := I.2.2.2.2.2 rt v hr hv
  by_cases c : v = rt
  · subst c
    rw [I.1 v hv, decide_eq_true (show v = v from rfl)]
    rfl
  · have h1 : 0 < dst A n rt v := Nat.pos_of_ne_zero (fun e => c (I.2.1 rt v hr hv e).symm)
    rw [decide_eq_false c, decide_eq_true (show (0 : Int32) < nI (dst A n rt v) from nI_lt (a := 0) h1 (by omega))]
    refine fst?_congr (fun u hu => ?_)
    have hu2 := I.2.2.2.2.2 rt u hr hu
    congr 1
    rw [hF u hu, Bool.eq_iff_iff, decide_eq_true_eq, decide_eq_true_eq, show nI (dst A n rt v) - 1 = nI (dst A n rt v - 1) from pk_sub (b := 1) h1, nI_eq (by omega) (by omega)]
    omega
theorem mpr_ptr (hn : n ≤ 12) (G : GR n q fa fb) (C : Con (bt fa fb q) n) {rt : Nat} (hr : rt < n) (f : Nat → Int32) {v : Nat} (hv : v < n) : mpr fa fb q n (mdist (bt fa fb q) n f) rt v = ptr (bt fa fb q) n (dst (bt fa fb q) n) rt v := by
  have hB := G.nb
  have I := C.di hn hB
  have hF : ∀ u, u < n → mdist (bt fa fb q) n f (12 * u + rt) = nI (dst (bt fa fb q) n rt u) := fun u hu => by
    have h := mdist_rep (A := bt fa fb q) hn f u rt hu hr
    rw [h.1]
    show nI (dst (bt fa fb q) n u rt) = _
    rw [dst_sym hB hu hr]
  unfold mpr ptr mnr
  by_cases c : v = rt
  · rw [decide_eq_true c]
    rfl
  · rw [decide_eq_false c, cond_false, cond_false]
    have hb := I.2.2.2.2.2 rt v hr hv
    have h1 : 0 < dst (bt fa fb q) n rt v := Nat.pos_of_ne_zero (fun e => c (I.2.1 rt v hr hv e).symm)
    refine fst?_congr (fun u hu => ?_)
    have hu2 := I.2.2.2.2.2 rt u hr hu
    rw [bt_comm fa fb q u v]
    congr 1
    rw [hF u hu, hF v hv, Bool.eq_iff_iff, decide_eq_true_eq, decide_eq_true_eq, show nI (dst (bt fa fb q) n rt v) - 1 = nI (dst (bt fa fb q) n rt v - 1) from pk_sub (b := 1) h1, nI_eq (by omega) (by omega)]
    omega
theorem ptr_some {D : Nat → Nat → Nat} {rt v u : Nat} (h : ptr A n D rt v = some u) : u < n ∧ (A v u).isSome = true ∧ D rt u + 1 = D rt v := by
  unfold ptr at h
  rcases bif_or h with h | h
  · cases h
  · have := fst?_lt h
    rw [Bool.and_eq_true, decide_eq_true_eq] at this
    exact this
theorem ptr_none (hB : Nb A n) {D : Nat → Nat → Nat} (I : DI A n D) {rt v : Nat} (hr : rt < n) (hv : v < n) : ptr A n D rt v = none ↔ v = rt := by
  constructor
  · intro h
    by_cases c : v = rt
    · exact c
    · have h1 : 0 < D rt v := Nat.pos_of_ne_zero (fun e => c (I.2.1 rt v hr hv e).symm)
      have hs := I.2.2.1 rt v hr hv
      obtain ⟨u, hu, hd⟩ := I.2.2.2.2.1 v rt (D rt v - 1) hv hr (by omega)
      have hun := (hB.1 v u hu).2.1
      have hs2 := I.2.2.1 rt u hr hun
      unfold ptr at h
      rw [decide_eq_false c, cond_false] at h
      have key : ∀ k, k ≤ n → u < k → fst? (fun u => (A v u).isSome && decide (D rt u + 1 = D rt v)) k ≠ none := by
        intro k
        induction k with
        | zero => intro _ h; exact absurd h (Nat.not_lt_zero _)
        | succ k ih =>
          intro hk hl he
          unfold fst? at he
          cases e : fst? (fun u => (A v u).isSome && decide (D rt u + 1 = D rt v)) k with
          | some w => rw [e] at he; cases he
          | none =>
            rw [e] at he
            by_cases c2 : u < k
            · exact ih (by omega) c2 e
            · have : u = k := by omega
              subst this
              rw [hu, decide_eq_true (show D rt u + 1 = D rt v by omega)] at he
              cases he
      exact absurd h (key n (Nat.le_refl _) hun)
  · intro h
    unfold ptr
    rw [decide_eq_true h]
    rfl
theorem ptr_rk {D : Nat → Nat → Nat} (hn : n ≤ 12) (I : DI A n D) {rt : Nat} (hr : rt < n) : Rk (ptr A n D rt) n (fun v => D rt v) := ⟨fun v hv => by have := I.2.2.2.2.2 rt v hr hv; show D rt v < 12; omega, fun v u hv h => by have := ptr_some h; exact ⟨this.1, by show D rt u < D rt v; omega⟩⟩
end DIS
