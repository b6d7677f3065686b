/-! SIDES and COLOURS -/
section SID
variable {S : am_S0} {n : Nat} {E : Nat → Nat → Option Nat} {p : Nat → Option Nat}
def dl7 (S : am_S0) (E : Nat → Nat → Option Nat) (v u : Nat) (t : T3) : T3 := bif !decide (S 27 v = 0) && (E v u).isSome then (bif decide (S 24 u = -1) then (1 - S 24 v, t.2.1, S 1 6) else bif decide (S 24 u = S 24 v) then (t.1, 1, t.2.2) else t) else t
theorem sid_in (v : Nat) {u : Nat} (hu : u < n) : tri (sid E n v S) u = dl7 S E v u (tri S u) := by
  show tri (itr (sid1 E v) n S) u = _
  rw [tri_itr (φ := fun u t => dl7 S E v u t) S (sid1_ag v) (fun u S1 A => by
    unfold sid1 dl7 dlv
    rw [A 27 (by decide) (by decide) (by decide), A 24 (by decide) (by decide) (by decide), A 1 (by decide) (by decide) (by decide)]
    cases (!decide (S 27 v = 0) && (E v u).isSome)
    · rfl
    · cases decide (S 24 u = -1)
      · cases decide (S 24 u = S 24 v)
        · rfl
        · show (S1 20 u, upd (S1 21) u 1 u, S1 22 u) = _
          rw [pk_us]
          rfl
      · show (upd (S1 20) u _ u, S1 21 u, upd (S1 22) u _ u) = _
        rw [pk_us, pk_us]
        rfl) (fun u j S1 A h => by
    unfold sid1 dlv
    cases (!decide (S1 27 v = 0) && (E v u).isSome)
    · rfl
    · cases decide (S1 24 u = -1)
      · cases decide (S1 24 u = S1 24 v)
        · rfl
        · show (S1 20 j, upd (S1 21) u 1 j, S1 22 j) = _
          rw [pk_un h]
          rfl
      · show (upd (S1 20) u _ j, S1 21 j, upd (S1 22) u _ j) = _
        rw [pk_un h, pk_un h]
        rfl) n u, if_pos hu]
theorem sid_all {u : Nat} (hu : u < n) : ∀ k, tri (itr (sid E n) k S) u = itr (fun v t => dl7 S E v u t) k (tri S u)
  | 0 => rfl
  | k + 1 => by
    have A : Ag S (itr (sid E n) k S) := Ag.itr sid_ag k S
    rw [itr_s, itr_s, ← sid_all hu k, sid_in k hu]
    unfold dl7
    rw [A 27 (by decide) (by decide) (by decide), A 24 (by decide) (by decide) (by decide), A 1 (by decide) (by decide) (by decide)]
theorem chA7 {u : Nat} (hu : u < n) : tri (chA 7 E n p S) u = itr (fun v t => dl7 S E v u t) n (tri S u) := sid_all hu n
end SID
section SIDES
variable {n rt : Nat} {A : Nat → Nat → Option Nat} {D : Nat → Nat → Nat} {F : Nat → Int32} {S : am_S0}
def H7 (A : Nat → Nat → Option Nat) (F : Nat → Int32) (n rt r v : Nat) : T3 := (hsd A F n rt v 0 (nI r), hsd A F n rt v 1 (nI r), hsd A F n rt v 2 (nI r))
/-- a neighbour as far as oneself -/
def smf (A : Nat → Nat → Option Nat) (D : Nat → Nat → Nat) (n rt v : Nat) : Bool := anyb (fun u => decide (D rt u = D rt v) && (A u v).isSome) n
theorem H7_is (hn : n ≤ 12) (I : DI A n D) (hF : Fis n F D) (hr : rt < n) {r v : Nat} (hrr : r < 1000000) (hv : v < n) : H7 A F n rt r v = (bif decide (r < D rt v) then -1 else nI (D rt v % 2), bif smf A D n rt v && decide (D rt v < r) then 1 else 0, bif decide (r < D rt v) then 0 else nI (D rt v)) := by
  have hb := I.2.2.2.2.2 rt v hr hv
  unfold H7 hsd
  rw [hF rt v hr hv]
  have e1 : decide (nI r < nI (D rt v)) = decide (r < D rt v) := by rw [Bool.eq_iff_iff, decide_eq_true_eq, decide_eq_true_eq, nI_ltI (by omega) (by omega)]
  have e2 : (!decide (nI r ≤ nI (D rt v))) = decide (D rt v < r) := by rw [Bool.eq_iff_iff, Bool.not_eq_true', decide_eq_false_iff_not, decide_eq_true_eq, nI_leI (by omega) (by omega)]; omega
  have e3 : anyb (fun u => (A u v).isSome && decide (F (12 * rt + u) = nI (D rt v))) n = smf A D n rt v := by
    rw [Bool.eq_iff_iff, anyb_true]
    unfold smf
    rw [anyb_true]
    constructor
    · rintro ⟨u, hu, h⟩
      rw [Bool.and_eq_true, decide_eq_true_eq, hF rt u hr hu, nI_eq (by have := I.2.2.2.2.2 rt u hr hu; omega) (by omega)] at h
      exact ⟨u, hu, by rw [h.1, decide_eq_true h.2]; rfl⟩
    · rintro ⟨u, hu, h⟩
      rw [Bool.and_eq_true, decide_eq_true_eq] at h
      exact ⟨u, hu, by rw [h.2, hF rt u hr hu, h.1, decide_eq_true rfl]; rfl⟩
  have e4 : nI (D rt v) - nI (D rt v) / 2 * 2 = nI (D rt v % 2) := pk_rem (d := 2) (by omega) (by decide) (by decide)
  simp only [e1, e2, e3, e4]
theorem sides_step (hn : n ≤ 12) (hB : Nb A n) (I : DI A n D) (hF : Fis n F D) (hr : rt < n) {r : Nat} (hrr : r < 100000) (h24 : ∀ v, v < n → S 24 v = (H7 A F n rt r v).1) (h27 : ∀ v, v < n → S 27 v = bi (decide (D rt v = r))) (h16 : S 1 6 = nI (r + 1)) {u : Nat} (hu : u < n) : itr (fun v t => dl7 S A v u t) n (H7 A F n rt r u) = H7 A F n rt (r + 1) u := by
  have hnb : ∀ v, (A v u).isSome = true → v < n ∧ D rt u ≤ D rt v + 1 ∧ D rt v ≤ D rt u + 1 := fun v h => by
    have hvn := hB.1 v u h
    have a := I.2.2.2.1 u v rt hr (by rw [hB.2]; exact h)
    have b := I.2.2.2.1 v u rt hr h
    rw [I.2.2.1 u rt hu hr, I.2.2.1 v rt hvn.1 hr] at a b
    exact ⟨hvn.1, a, b⟩
  have hH := fun v hv => H7_is hn I hF hr (show r < 1000000 by omega) (v := v) hv
  have hbu := I.2.2.2.2.2 rt u hr hu
  have key : ∀ k, k ≤ n → itr (fun v t => dl7 S A v u t) k (H7 A F n rt r u) = bif anyb (fun v => decide (D rt v = r) && (A v u).isSome) k then (if D rt u = r + 1 then (nI ((r + 1) % 2), (H7 A F n rt r u).2.1, nI (r + 1)) else if D rt u = r then ((H7 A F n rt r u).1, 1, (H7 A F n rt r u).2.2) else H7 A F n rt r u) else H7 A F n rt r u := by
    intro k
    induction k with
    | zero => intro _; rfl
    | succ k ih =>
      intro hk
      have ih := ih (by omega)
      rw [itr_s, ih]
      show dl7 S A k u _ = bif (anyb _ k || (decide (D rt k = r) && (A k u).isSome)) then _ else _
      unfold dl7
      rw [h27 k (by omega)]
      by_cases c : D rt k = r ∧ (A k u).isSome = true
      · have hk2 := hnb k c.2
        rw [decide_eq_true c.1, c.2, Bool.and_self, Bool.or_true, cond_true]
        have e27 : (!decide (bi true = 0) && true) = true := by decide
        rw [e27, cond_true]
        have e24k : S 24 k = nI (r % 2) := by
          rw [h24 k hk2.1, hH k hk2.1]
          show (bif decide (r < D rt k) then (-1 : Int32) else nI (D rt k % 2)) = _
          rw [c.1, decide_eq_false (Nat.lt_irrefl r)]
          rfl
        have e24u : S 24 u = bif decide (r < D rt u) then -1 else nI (D rt u % 2) := by rw [h24 u hu, hH u hu]
        rw [e24k, e24u, h16]
        by_cases c1 : D rt u = r + 1
        · rw [decide_eq_true (show r < D rt u by omega), cond_true, decide_eq_true rfl, cond_true, if_pos c1]
          have e1 : (1 : Int32) - nI (r % 2) = nI ((r + 1) % 2) := by
            rcases Nat.mod_two_eq_zero_or_one r with h | h
            · rw [h, show (r + 1) % 2 = 1 by omega]; rfl
            · rw [h, show (r + 1) % 2 = 0 by omega]; rfl
          rw [e1]
          cases anyb (fun v => decide (D rt v = r) && (A v u).isSome) k <;> rfl
        · rw [decide_eq_false (show ¬ r < D rt u by omega), cond_false, decide_eq_false (show ¬ nI (D rt u % 2) = -1 from fun q => neg1_nI _ (by omega) q.symm), cond_false, if_neg c1]
          by_cases c2 : D rt u = r
          · rw [c2, decide_eq_true rfl, cond_true, if_pos rfl]
            cases anyb (fun v => decide (D rt v = r) && (A v u).isSome) k <;> rfl
          · rw [decide_eq_false (show ¬ nI (D rt u % 2) = nI (r % 2) from fun q => by
              have := (nI_eq (by omega) (by omega)).mp q
              omega), cond_false, if_neg c2]
            cases anyb (fun v => decide (D rt v = r) && (A v u).isSome) k <;> rfl
      · have e1 : (decide (D rt k = r) && (A k u).isSome) = false := by
          rw [Bool.and_eq_false_iff, decide_eq_false_iff_not]
          by_cases x : D rt k = r
          · exact Or.inr (Bool.eq_false_iff.mpr (fun h => c ⟨x, h⟩))
          · exact Or.inl x
        have e2 : (!decide (bi (decide (D rt k = r)) = 0) && (A k u).isSome) = false := by
          rw [← e1]
          congr 1
          cases decide (D rt k = r) <;> rfl
        rw [e2, e1, Bool.or_false, cond_false]
  rw [key n (Nat.le_refl _), H7_is hn I hF hr (show r + 1 < 1000000 by omega) hu]
  have h0 := hH u hu
  by_cases c1 : D rt u = r + 1
  · have hs := I.2.2.1 rt u hr hu
    obtain ⟨v, hv1, hv2⟩ := I.2.2.2.2.1 u rt r hu hr (by omega)
    have hvn := (hB.1 u v hv1).2.1
    rw [anyb_true.mpr ⟨v, hvn, by rw [Bool.and_eq_true, decide_eq_true_eq]; exact ⟨by rw [I.2.2.1 rt v hr hvn]; exact hv2, by rw [hB.2]; exact hv1⟩⟩, cond_true, if_pos c1, h0]
    show (nI ((r + 1) % 2), (bif smf A D n rt u && decide (D rt u < r) then (1 : Int32) else 0), nI (r + 1)) = _
    rw [c1, decide_eq_false (show ¬ r + 1 < r by omega), decide_eq_false (Nat.lt_irrefl (r + 1)), Bool.and_false]
    rfl
  · rw [if_neg c1]
    by_cases c2 : D rt u = r
    · rw [if_pos c2]
      have e1 : anyb (fun v => decide (D rt v = r) && (A v u).isSome) n = smf A D n rt u := by unfold smf; rw [c2]
      rw [e1, h0, c2, decide_eq_false (show ¬ r < r by omega), decide_eq_false (show ¬ r + 1 < r by omega), decide_eq_true (show r < r + 1 by omega)]
      cases smf A D n rt u <;> rfl
    · rw [if_neg c2]
      have e1 : (bif anyb (fun v => decide (D rt v = r) && (A v u).isSome) n then H7 A F n rt r u else H7 A F n rt r u) = H7 A F n rt r u := by
        cases anyb (fun v => decide (D rt v = r) && (A v u).isSome) n <;> rfl
      rw [e1, h0]
      have d1 : decide (r < D rt u) = decide (r + 1 < D rt u) := by rw [Bool.eq_iff_iff, decide_eq_true_eq, decide_eq_true_eq]; omega
      have d2 : decide (D rt u < r) = decide (D rt u < r + 1) := by rw [Bool.eq_iff_iff, decide_eq_true_eq, decide_eq_true_eq]; omega
      rw [d1, d2]
end SIDES
/-! bits -/
theorem sh31 : ∀ p, p < 32 → ((nI p &&& 31).toBitVec.smod 32).toNat = p := by decide +kernel
theorem bitp_nI {a p : Nat} (ha : a < 2 ^ 31) (hp : p < 32) : bitp (nI a) p = nI (a / 2 ^ p % 2) := by
  unfold bitp
  rw [pk_shrN ha _ p (sh31 p hp), pk_andN (Nat.lt_of_le_of_lt (Nat.div_le_self _ _) (by omega)) 1 (by decide)]
theorem xor_nI (a b : Nat) : nI a ^^^ nI b = nI (a ^^^ b) := by
  apply Int32.toBitVec_inj.mp
  show BitVec.ofNat 32 a ^^^ BitVec.ofNat 32 b = BitVec.ofNat 32 (a ^^^ b)
  exact (BitVec.ofNat_xor).symm
theorem bit_eq {a b p : Nat} (ha : a < 1024) (hb : b < 1024) (hp : p < 32) : ((nI a ^^^ nI b) >>> (nI p &&& 31)) &&& 1 = 0 ↔ a.testBit p = b.testBit p := by
  have hx : a ^^^ b < 2 ^ 10 := Nat.xor_lt_two_pow (by omega) (by omega)
  have e : ((nI a ^^^ nI b) >>> (nI p &&& 31)) &&& 1 = bitp (nI (a ^^^ b)) p := by rw [xor_nI]; rfl
  rw [e, bitp_nI (by omega) hp, show (0 : Int32) = nI 0 from rfl, nI_eq (by omega) (by omega)]
  have h1 : (a ^^^ b).testBit p = (a.testBit p ^^ b.testBit p) := Nat.testBit_xor a b p
  have h2 : (a ^^^ b).testBit p = decide ((a ^^^ b) / 2 ^ p % 2 = 1) := Nat.testBit_eq_decide_div_mod_eq
  rw [h2] at h1
  constructor
  · intro h
    rw [h] at h1
    cases ea : a.testBit p <;> cases eb : b.testBit p <;> rw [ea, eb] at h1 <;> first | rfl | (exact absurd h1 (by decide))
  · intro h
    rw [h] at h1
    have : ¬ (a ^^^ b) / 2 ^ p % 2 = 1 := by
      cases eb : b.testBit p <;> rw [eb] at h1 <;> exact of_decide_eq_false h1
    omega
theorem bitp_eq {a b p : Nat} (ha : a < 1024) (hb : b < 1024) (hp : p < 32) : bitp (nI a) p = bitp (nI b) p ↔ a.testBit p = b.testBit p := by
  rw [bitp_nI (by omega) hp, bitp_nI (by omega) hp, nI_eq (by omega) (by omega), Nat.testBit_eq_decide_div_mod_eq, Nat.testBit_eq_decide_div_mod_eq, Bool.eq_iff_iff, decide_eq_true_eq, decide_eq_true_eq]
  have h1 : a / 2 ^ p % 2 < 2 := Nat.mod_lt _ (by decide)
  have h2 : b / 2 ^ p % 2 < 2 := Nat.mod_lt _ (by decide)
  omega
theorem ldf_spec {a b : Nat} (ha : a < 1024) (hb : b < 1024) (h : a ≠ b) : ldf (nI a) (nI b) < 10 ∧ (∀ p, p < ldf (nI a) (nI b) → bitp (nI a) p = bitp (nI b) p) ∧ ¬ bitp (nI a) (ldf (nI a) (nI b)) = bitp (nI b) (ldf (nI a) (nI b)) := by
  have ex : ∃ p, p < 10 ∧ a.testBit p ≠ b.testBit p := by
    refine Decidable.byContradiction (fun c => h (Nat.eq_of_testBit_eq (fun i => ?_)))
    by_cases hi : i < 10
    · exact Decidable.byContradiction (fun c2 => c ⟨i, hi, c2⟩)
    · have hp : 2 ^ 10 ≤ 2 ^ i := Nat.pow_le_pow_right (by decide) (by omega)
      rw [Nat.testBit_lt_two_pow (by omega), Nat.testBit_lt_two_pow (by omega)]
  -- the first such place
  have fst : ∃ p, p < 10 ∧ a.testBit p ≠ b.testBit p ∧ ∀ i, i < p → a.testBit i = b.testBit i := by
    obtain ⟨p, hp, hd⟩ := ex
    induction p using Nat.strongRecOn with
    | ind p ih =>
      by_cases c : ∃ i, i < p ∧ a.testBit i ≠ b.testBit i
      · obtain ⟨i, hi, hdi⟩ := c
        exact ih i hi (by omega) hdi
      · exact ⟨p, hp, hd, fun i hi => Decidable.byContradiction (fun c2 => c ⟨i, hi, c2⟩)⟩
  obtain ⟨p, hp, hd, hl⟩ := fst
  have e : ldf (nI a) (nI b) = p := by
    unfold ldf
    rw [fst?_some (v := p) ?_ (fun i hi => ?_) (by omega)]
    · rfl
    · rw [decide_eq_false (fun q => hd ((bit_eq ha hb (by omega)).mp q))]
      rfl
    · rw [decide_eq_true ((bit_eq ha hb (by omega)).mpr (hl i hi))]
      rfl
  rw [e]
  exact ⟨hp, fun i hi => (bitp_eq ha hb (by omega)).mpr (hl i hi), fun q => hd ((bitp_eq ha hb (by omega)).mp q)⟩
section COL
variable {n : Nat} {pr : Nat → Option Nat} {ids : Nat → Int32}
/-- colours: small, and a parent's is another one -/
def Clr (pr : Nat → Option Nat) (n : Nat) (f : Nat → Int32) : Prop := ∃ a : Nat → Nat, (∀ u, u < n → f u = nI (a u) ∧ a u < 1024) ∧ ∀ u w, u < n → pr u = some w → a u ≠ a w
theorem Clr.dif (hp : ∀ v u, v < n → pr v = some u → u < n) {f : Nat → Int32} (h : Clr pr n f) : Dif pr n f := by
  obtain ⟨a, h1, h2⟩ := h
  intro u w hu e
  have hw := hp u w hu e
  rw [(h1 u hu).1, (h1 w hw).1]
  exact (ldf_spec (h1 u hu).2 (h1 w hw).2 (h2 u w hu e)).2
theorem Clr.step (hp : ∀ v u, v < n → pr v = some u → u < n) {f : Nat → Int32} (h : Clr pr n f) : Clr pr n (pw n (cst pr f) f) := by
  obtain ⟨a, h1, h2⟩ := h
  -- the place that counts
  let k : Nat → Nat := fun u => match pr u with | none => 0 | some w => ldf (f u) (f w)
  have hk : ∀ u, u < n → k u < 10 := fun u hu => by
    show (match pr u with | none => 0 | some w => ldf (f u) (f w)) < 10
    cases e : pr u with
    | none => show 0 < 10; omega
    | some w =>
      show ldf (f u) (f w) < 10
      have hw := hp u w hu e
      rw [(h1 u hu).1, (h1 w hw).1]
      exact (ldf_spec (h1 u hu).2 (h1 w hw).2 (h2 u w hu e)).1
  have hc : ∀ u, u < n → cst pr f u = nI (2 * k u + a u / 2 ^ k u % 2) := fun u hu => by
    have e1 : cst pr f u = 2 * nI (k u) + bitp (f u) (k u) := by
      show (match pr u with | none => (2 : Int32) * nI 0 + bitp (f u) 0 | some w => (2 : Int32) * nI (ldf (f u) (f w)) + bitp (f u) (ldf (f u) (f w))) = (2 : Int32) * nI (match pr u with | none => 0 | some w => ldf (f u) (f w)) + bitp (f u) (match pr u with | none => 0 | some w => ldf (f u) (f w))
      cases pr u <;> rfl
    have := hk u hu
    rw [e1, (h1 u hu).1, bitp_nI (by have := (h1 u hu).2; omega) (by omega), show (2 : Int32) = nI 2 from rfl, pk_mul, nI_add]
  refine ⟨fun u => 2 * k u + a u / 2 ^ k u % 2, fun u hu => ⟨by rw [pw_lt hu]; exact hc u hu, ?_⟩, fun u w hu e => ?_⟩
  · have := hk u hu
    have : a u / 2 ^ k u % 2 < 2 := Nat.mod_lt _ (by decide)
    show 2 * k u + a u / 2 ^ k u % 2 < 1024
    omega
  · have hw := hp u w hu e
    show 2 * k u + a u / 2 ^ k u % 2 ≠ 2 * k w + a w / 2 ^ k w % 2
    intro q
    have b1 : a u / 2 ^ k u % 2 < 2 := Nat.mod_lt _ (by decide)
    have b2 : a w / 2 ^ k w % 2 < 2 := Nat.mod_lt _ (by decide)
    have kk : k u = k w := by omega
    have bb : a u / 2 ^ k u % 2 = a w / 2 ^ k u % 2 := by rw [← kk] at q; omega
    have ek : k u = ldf (f u) (f w) := by
      show (match pr u with | none => 0 | some w => ldf (f u) (f w)) = _
      rw [e]
    have hd := (ldf_spec (h1 u hu).2 (h1 w hw).2 (h2 u w hu e)).2.2
    rw [← (h1 u hu).1, ← (h1 w hw).1, ← ek, (h1 u hu).1, (h1 w hw).1] at hd
    have := hk u hu
    rw [bitp_nI (by have := (h1 u hu).2; omega) (by omega), bitp_nI (by have := (h1 w hw).2; omega) (by omega), bb] at hd
    exact hd rfl
theorem ck_clr (hp : ∀ v u, v < n → pr v = some u → u < n) (h : Clr pr n ids) : ∀ k, Clr pr n (ck pr n k ids)
  | 0 => h
  | k + 1 => (ck_clr hp h k).step hp
end COL
