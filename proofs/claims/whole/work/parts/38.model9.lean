/-! the model: colours and sides -/
theorem mt49 {ch : Option Nat} {S : am_S0} {f h f2 : Nat → Int32} : (mem ch (am_up (am_up S 49 f) 50 h)).set 49 (.inl (0, 12, .inl f2)) = mem ch (am_up (am_up S 49 f2) 50 h) := by
  show mem ch (am_up (am_up (am_up S 49 f) 50 h) 49 f2) = _
  rw [am_up_comm _ h f2 (by decide), am_up_up]
theorem mt50 {ch : Option Nat} {S : am_S0} {f h f2 : Nat → Int32} : (mem ch (am_up (am_up S 49 f) 50 h)).set 50 (.inl (0, 12, .inl f2)) = mem ch (am_up (am_up S 49 f) 50 f2) := ms50
def bitp (x : Int32) (p : Nat) : Int32 := (x >>> (nI p &&& 31)) &&& 1
def cst (pr : Nat → Option Nat) (f : Nat → Int32) (u : Nat) : Int32 := match pr u with
  | none => 2 * nI 0 + bitp (f u) 0
  | some w => 2 * nI (ldf (f u) (f w)) + bitp (f u) (ldf (f u) (f w))
def ck (pr : Nat → Option Nat) (n k : Nat) (f : Nat → Int32) : Nat → Int32 := itr (fun _ F => pw n (cst pr F) F) k f
theorem ck_congr {pr : Nat → Option Nat} {n : Nat} {f h : Nat → Int32} (hp : ∀ v u, v < n → pr v = some u → u < n) (e : ∀ u, u < n → f u = h u) : ∀ k u, u < n → ck pr n k f u = ck pr n k h u
  | 0, u, hu => e u hu
  | k + 1, u, hu => by
    have ih := ck_congr hp e k
    show pw n (cst pr (ck pr n k f)) (ck pr n k f) u = pw n (cst pr (ck pr n k h)) (ck pr n k h) u
    rw [pw_lt hu, pw_lt hu]
    unfold cst
    cases e9 : pr u with
    | none => simp only [ih u hu]
    | some w => simp only [ih u hu, ih w (hp u w hu e9)]
/-- where a node's bits and its parent's differ first -/
def Dif (pr : Nat → Option Nat) (n : Nat) (f : Nat → Int32) : Prop := ∀ u w, u < n → pr u = some w → (∀ p, p < ldf (f u) (f w) → bitp (f u) p = bitp (f w) p) ∧ ¬ bitp (f u) (ldf (f u) (f w)) = bitp (f w) (ldf (f u) (f w))
theorem ldf_le (x y : Int32) : ldf x y ≤ 31 := by
  unfold ldf
  cases e : fst? (fun p => !decide (((x ^^^ y) >>> (nI p &&& 31)) &&& 1 = 0)) 31 with
  | none => exact Nat.le_refl _
  | some p =>
    have := (fst?_lt e).1
    show p ≤ 31
    omega
section MM9
variable {g : am_G} {d : Nat} {ch : Option Nat} {S : am_S0} {n q : Nat} {fa fb : Nat → Nat}
variable {pr : Nat → Option Nat} {rk : Nat → Nat} {rt : Nat}
theorem m_whl {K : am_K} (F : Nat → Int32) (hn : n ≤ 12) (hr : S 38 9 = nI rt) (hP : ∀ v, v < n → S 44 v = em (pr v)) (hF : ∀ v, v < n → S 50 v = F v) (k0 u w : Nat) (hu : u < n) (hw : w < n) (hrt : rt < n) (hne : ¬ u = rt) (ep : pr u = some w) (hD : (∀ p, p < ldf (F u) (F w) → bitp (F u) p = bitp (F w) p) ∧ ¬ bitp (F u) (ldf (F u) (F w)) = bitp (F w) (ldf (F u) (F w))) (y : Option Value × Option Value) (kk : AW g d 0 0 144 71 [some (.ref 38), y.1, y.2, some (.int (nI k0)), some (.int (nI u)), some (.int (nI (ldf (F u) (F w))))] [] (mem ch S) K) : AW g d 0 0 144 45 [some (.ref 38), y.1, y.2, some (.int (nI k0)), some (.int (nI u)), some (.int (nI 0))] [] (mem ch S) K := by
  refine am_for (ldf (F u) (F w)) (fun v => [some (.ref 38), y.1, y.2, some (.int (nI k0)), some (.int (nI u)), some (.int (nI v))]) (fun v => mem ch S) (fun v hv k => ?_) ?_ (ldf (F u) (F w)) 0 (by omega)
  · refine am_iload rfl rfl ?_
    refine am_aload_n rfl rfl rfl ?_
    refine am_get rfl rfl rfl ?_
    rw [hr]
    refine am_icmp_eq rfl (fun h => absurd ((nI_eq (by omega) (by omega)).mp h) hne) (fun _ => ?_)
    refine am_aload_n rfl rfl rfl ?_
    refine am_get rfl rfl rfl ?_
    refine am_iload rfl rfl ?_
    refine am_iald rfl rfl rfl (by omega) (by decide) ?_
    rw [hF u hu]
    refine am_iload rfl rfl ?_
    refine am_ishr rfl ?_
    refine am_iconst rfl ?_
    refine am_iand rfl ?_
    refine am_aload_n rfl rfl rfl ?_
    refine am_get rfl rfl rfl ?_
    refine am_aload_n rfl rfl rfl ?_
    refine am_get rfl rfl rfl ?_
    refine am_iload rfl rfl ?_
    refine am_iald rfl rfl rfl (by omega) (by decide) ?_
    rw [hP u hu, ep]
    refine am_iald (k8 := w) rfl rfl rfl (by omega) (by decide) ?_
    rw [hF w hw]
    refine am_iload rfl rfl ?_
    refine am_ishr rfl ?_
    refine am_iconst rfl ?_
    refine am_iand rfl ?_
    refine am_icmp_ne rfl (fun h => absurd (hD.1 v hv) h) (fun _ => ?_)
    refine am_iinc rfl rfl ?_
    refine am_goto rfl ?_
    simp only [nI_succ v] at k
    exact k
  · refine am_iload rfl rfl ?_
    refine am_aload_n rfl rfl rfl ?_
    refine am_get rfl rfl rfl ?_
    rw [hr]
    refine am_icmp_eq rfl (fun h => absurd ((nI_eq (by omega) (by omega)).mp h) hne) (fun _ => ?_)
    refine am_aload_n rfl rfl rfl ?_
    refine am_get rfl rfl rfl ?_
    refine am_iload rfl rfl ?_
    refine am_iald rfl rfl rfl (by omega) (by decide) ?_
    rw [hF u hu]
    refine am_iload rfl rfl ?_
    refine am_ishr rfl ?_
    refine am_iconst rfl ?_
    refine am_iand rfl ?_
    refine am_aload_n rfl rfl rfl ?_
    refine am_get rfl rfl rfl ?_
    refine am_aload_n rfl rfl rfl ?_
    refine am_get rfl rfl rfl ?_
    refine am_iload rfl rfl ?_
    refine am_iald rfl rfl rfl (by omega) (by decide) ?_
    rw [hP u hu, ep]
    refine am_iald (k8 := w) rfl rfl rfl (by omega) (by decide) ?_
    rw [hF w hw]
    refine am_iload rfl rfl ?_
    refine am_ishr rfl ?_
    refine am_iconst rfl ?_
    refine am_iand rfl ?_
    refine am_icmp_ne rfl (fun _ => ?_) (fun h => absurd h hD.2)
    exact kk
/-- heldColour(v, r) -/
theorem m_heldColour (N : MN S n q fa fb) (hr : S 38 9 = nI rt) (hrt : rt < n) (R : Rk pr n rk) (hP : ∀ v, v < n → S 44 v = em (pr v)) (hro : ∀ v, v < n → (pr v = none ↔ v = rt)) (r : Nat) (hr4 : r < 1000000) (hDif : ∀ k, k < r → Dif pr n (ck pr n k (S 42))) (x : Nat) (hx : x < n) : AW g d 0 0 144 0 (am_L0 144 [.ref 38, .int (nI x), .int (nI r)]) [] (mem ch S) (am_sc (ck pr n r (S 42) x) ch S) := by
  have hn := N.2.1
  refine am_iconst rfl ?_
  refine am_istore_n rfl ?_
  refine am_Meq (M' := mem ch (am_up S 49 (pw 0 (S 42) (S 49)))) (by rw [pw_0, am_up_self]) ?_
  show AW g _ 0 0 144 2 [some (.ref 38), some (.int (nI x)), some (.int (nI r)), some (.int (nI 0)), none, none] [] _ _
  refine am_for (n) (fun v => [some (.ref 38), some (.int (nI x)), some (.int (nI r)), some (.int (nI v)), none, none]) (fun v => mem ch (am_up S 49 (pw v (S 42) (S 49)))) (fun v hv k => ?_) ?_ (n) 0 (by omega)
  · refine am_iload_n rfl rfl ?_
    refine am_aload_n rfl rfl rfl ?_
    refine am_get rfl rfl rfl ?_
    refine am_icmp_ge rfl (fun h => absurd h (nm_lt (N.up (k := 49) (by decide)).1 hn hv)) (fun _ => ?_)
    refine am_aload_n rfl rfl rfl ?_
    refine am_get rfl rfl rfl ?_
    refine am_iload_n rfl rfl ?_
    refine am_aload_n rfl rfl rfl ?_
    refine am_get rfl rfl rfl ?_
    refine am_iload_n rfl rfl ?_
    refine am_iald rfl rfl rfl (by omega) (by decide) ?_
    refine am_iast rfl rfl rfl (by omega) (by decide) ?_
    refine am_Meq ms49 ?_
    refine am_Meq (M' := mem ch (am_up S 49 (pw (v + 1) (S 42) (S 49)))) (by rw [← pw_s]; rfl) ?_
    refine am_iinc rfl rfl ?_
    refine am_goto rfl ?_
    simp only [nI_succ] at k
    exact k
  · refine am_iload_n rfl rfl ?_
    refine am_aload_n rfl rfl rfl ?_
    refine am_get rfl rfl rfl ?_
    refine am_icmp_ge rfl (fun _ => ?_) (fun h => absurd (nm_ge (N.up (k := 49) (by decide)).1 hn) h)
    refine am_iconst rfl ?_
    refine am_istore_n rfl ?_
    show AW g _ 0 0 144 18 [some (.ref 38), some (.int (nI x)), some (.int (nI r)), some (.int (nI 0)), none, none] [] _ _
    refine am_Meq (M' := mem ch (am_up (am_up S 49 (ck pr n 0 (pw n (S 42) (S 49)))) 50 (S 50))) (congrArg (mem ch) (am_up_self (am_up S 49 (pw n (S 42) (S 49))) 50).symm) ?_
    refine am_forS (r) (fun k0 s => [some (.ref 38), some (.int (nI x)), some (.int (nI r)), some (.int (nI k0)), s.1, s.2.1]) (fun k0 s => mem ch (am_up (am_up S 49 (ck pr n k0 (pw n (S 42) (S 49)))) 50 s.2.2)) (fun k0 s => True) (fun k0 s hk0 _ k1 => ?_) (fun s _ => ?_) (r) 0 (((none, none, S 50) : Option Value × Option Value × (Nat → Int32))) (by omega) trivial
    · have hD0 := hDif k0 hk0
      have hcc := ck_congr (f := pw n (S 42) (S 49)) (h := S 42) (fun v u hv h => (R.2 v u hv h).1) (fun u hu => pw_lt hu) k0
      have hD : Dif pr n (ck pr n k0 (pw n (S 42) (S 49))) := fun u w hu e => by
        have hw := (R.2 u w hu e).1
        rw [hcc u hu, hcc w hw]
        exact hD0 u w hu e
      have hck : ck pr n (k0 + 1) (pw n (S 42) (S 49)) = pw n (cst pr (ck pr n k0 (pw n (S 42) (S 49)))) (ck pr n k0 (pw n (S 42) (S 49))) := rfl
      rw [hck] at k1
      generalize ck pr n k0 (pw n (S 42) (S 49)) = F at k1 hD ⊢
      generalize s.2.2 = B
      refine am_iload_n rfl rfl ?_
      refine am_iload_n rfl rfl ?_
      refine am_icmp_ge rfl (fun h => absurd h (nI_ge hk0 (by omega))) (fun _ => ?_)
      refine am_iconst rfl ?_
      refine am_istore rfl ?_
      show AW g _ 0 0 144 23 [some (.ref 38), some (.int (nI x)), some (.int (nI r)), some (.int (nI k0)), some (.int (nI 0)), s.2.1] [] (mem ch (am_up (am_up S 49 F) 50 (pw 0 F B))) _
      refine am_for (n) (fun v => [some (.ref 38), some (.int (nI x)), some (.int (nI r)), some (.int (nI k0)), some (.int (nI v)), s.2.1]) (fun v => mem ch (am_up (am_up S 49 F) 50 (pw v F B))) (fun v hv k => ?_) ?_ (n) 0 (by omega)
      · refine am_iload rfl rfl ?_
        refine am_aload_n rfl rfl rfl ?_
        refine am_get rfl rfl rfl ?_
        refine am_icmp_ge rfl (fun h => absurd h (nm_lt (((N.up (k := 49) (by decide)).up (k := 50) (by decide))).1 hn hv)) (fun _ => ?_)
        refine am_aload_n rfl rfl rfl ?_
        refine am_get rfl rfl rfl ?_
        refine am_iload rfl rfl ?_
        refine am_aload_n rfl rfl rfl ?_
        refine am_get rfl rfl rfl ?_
        refine am_iload rfl rfl ?_
        refine am_iald rfl rfl rfl (by omega) (by decide) ?_
        refine am_iast rfl rfl rfl (by omega) (by decide) ?_
        refine am_Meq mt50 ?_
        refine am_Meq (M' := mem ch (am_up (am_up S 49 F) 50 (pw (v + 1) F B))) (by rw [← pw_s]; rfl) ?_
        refine am_iinc rfl rfl ?_
        refine am_goto rfl ?_
        simp only [nI_succ] at k
        exact k
      · refine am_iload rfl rfl ?_
        refine am_aload_n rfl rfl rfl ?_
        refine am_get rfl rfl rfl ?_
        refine am_icmp_ge rfl (fun _ => ?_) (fun h => absurd (nm_ge (((N.up (k := 49) (by decide)).up (k := 50) (by decide))).1 hn) h)
        refine am_iconst rfl ?_
        refine am_istore rfl ?_
        show AW g _ 0 0 144 39 [some (.ref 38), some (.int (nI x)), some (.int (nI r)), some (.int (nI k0)), some (.int (nI 0)), s.2.1] [] (mem ch (am_up (am_up S 49 (pw 0 (cst pr F) F)) 50 (pw n F B))) _
        refine am_forS (n) (fun v z => [some (.ref 38), some (.int (nI x)), some (.int (nI r)), some (.int (nI k0)), some (.int (nI v)), z]) (fun v z => mem ch (am_up (am_up S 49 (pw v (cst pr F) F)) 50 (pw n F B))) (fun v z => True) (fun v z hv _ k => ?_) (fun z _ => ?_) (n) 0 (s.2.1) (by omega) trivial
        · refine am_iload rfl rfl ?_
          refine am_aload_n rfl rfl rfl ?_
          refine am_get rfl rfl rfl ?_
          refine am_icmp_ge rfl (fun h => absurd h (nm_lt (((N.up (k := 49) (by decide)).up (k := 50) (by decide))).1 hn hv)) (fun _ => ?_)
          refine am_iconst rfl ?_
          refine am_istore rfl ?_
          rcases ep : pr v with _ | w
          · have hv0 := (hro v hv).mp ep
            refine am_iload rfl rfl ?_
            refine am_aload_n rfl rfl rfl ?_
            refine am_get rfl rfl rfl ?_
            rw [show am_up (am_up S 49 (pw v (cst pr F) F)) 50 (pw n F B) 38 9 = nI rt from hr]
            refine am_icmp_eq rfl (fun _ => ?_) (fun h => absurd (by rw [hv0]) h)
            show AW g _ 0 0 144 71 [some (.ref 38), some (.int (nI x)), some (.int (nI r)), some (.int (nI k0)), some (.int (nI v)), some (.int (nI 0))] [] _ _
            refine am_aload_n rfl rfl rfl ?_
            refine am_get rfl rfl rfl ?_
            refine am_iload rfl rfl ?_
            refine am_iconst rfl ?_
            refine am_iload rfl rfl ?_
            refine am_imul rfl ?_
            refine am_aload_n rfl rfl rfl ?_
            refine am_get rfl rfl rfl ?_
            refine am_iload rfl rfl ?_
            refine am_iald rfl rfl rfl (by omega) (by decide) ?_
            rw [show am_up (am_up S 49 (pw v (cst pr F) F)) 50 (pw n F B) 50 v = F v from pw_lt hv]
            refine am_iload rfl rfl ?_
            refine am_ishr rfl ?_
            refine am_iconst rfl ?_
            refine am_iand rfl ?_
            refine am_iadd rfl ?_
            refine am_iast rfl rfl rfl (by omega) (by decide) ?_
            refine am_Meq mt49 ?_
            refine am_Meq (M' := mem ch (am_up (am_up S 49 (pw (v + 1) (cst pr F) F)) 50 (pw n F B))) (by
              rw [← pw_s]
              show mem ch (am_up (am_up S 49 (upd (pw v (cst pr F) F) v (2 * nI 0 + bitp (F v) 0))) 50 (pw n F B)) = _
              rw [show cst pr F v = 2 * nI 0 + bitp (F v) 0 by unfold cst; rw [ep]]) ?_
            refine am_iinc rfl rfl ?_
            refine am_goto rfl ?_
            simp only [nI_succ v] at k
            exact k _ trivial
          · obtain ⟨hw, _⟩ := R.2 v w hv ep
            have hne : ¬ v = rt := fun h => by rw [(hro v hv).mpr h] at ep; cases ep
            refine m_whl (S := am_up (am_up S 49 (pw v (cst pr F) F)) 50 (pw n F B)) F hn hr hP (fun u hu => show pw n F B u = F u from pw_lt hu) k0 v w hv hw hrt hne ep (hD v w hv ep) (some (.int (nI x)), some (.int (nI r))) ?_
            refine am_aload_n rfl rfl rfl ?_
            refine am_get rfl rfl rfl ?_
            refine am_iload rfl rfl ?_
            refine am_iconst rfl ?_
            refine am_iload rfl rfl ?_
            refine am_imul rfl ?_
            refine am_aload_n rfl rfl rfl ?_
            refine am_get rfl rfl rfl ?_
            refine am_iload rfl rfl ?_
            refine am_iald rfl rfl rfl (by omega) (by decide) ?_
            rw [show am_up (am_up S 49 (pw v (cst pr F) F)) 50 (pw n F B) 50 v = F v from pw_lt hv]
            refine am_iload rfl rfl ?_
            refine am_ishr rfl ?_
            refine am_iconst rfl ?_
            refine am_iand rfl ?_
            refine am_iadd rfl ?_
            refine am_iast rfl rfl rfl (by omega) (by decide) ?_
            refine am_Meq mt49 ?_
            refine am_Meq (M' := mem ch (am_up (am_up S 49 (pw (v + 1) (cst pr F) F)) 50 (pw n F B))) (by
              rw [← pw_s]
              show mem ch (am_up (am_up S 49 (upd (pw v (cst pr F) F) v (2 * nI (ldf (F v) (F w)) + bitp (F v) (ldf (F v) (F w))))) 50 (pw n F B)) = _
              rw [show cst pr F v = 2 * nI (ldf (F v) (F w)) + bitp (F v) (ldf (F v) (F w)) by unfold cst; rw [ep]]) ?_
            refine am_iinc rfl rfl ?_
            refine am_goto rfl ?_
            simp only [nI_succ v] at k
            exact k _ trivial
        · refine am_iload rfl rfl ?_
          refine am_aload_n rfl rfl rfl ?_
          refine am_get rfl rfl rfl ?_
          refine am_icmp_ge rfl (fun _ => ?_) (fun h => absurd (nm_ge (((N.up (k := 49) (by decide)).up (k := 50) (by decide))).1 hn) h)
          refine am_iinc rfl rfl ?_
          refine am_goto rfl ?_
          simp only [nI_succ k0] at k1
          exact k1 (_, _, _) trivial
    · refine am_iload_n rfl rfl ?_
      refine am_iload_n rfl rfl ?_
      refine am_icmp_ge rfl (fun _ => ?_) (fun h => absurd (nI_le (Nat.le_refl r) (by omega)) h)
      refine am_aload_n rfl rfl rfl ?_
      refine am_get rfl rfl rfl ?_
      refine am_iload_n rfl rfl ?_
      refine am_iald rfl rfl rfl (by omega) (by decide) ?_
      refine am_ireturn rfl (fun h => absurd h (by decide)) ⟨?_, am_up (am_up S 49 (ck pr n r (pw n (S 42) (S 49)))) 50 s.2.2, (Scr.rf.up (Or.inr (Or.inl rfl))).up (Or.inr (Or.inr rfl)), rfl⟩
      exact congrArg (fun z => some (Value.int z)) (ck_congr (fun v u hv h => (R.2 v u hv h).1) (fun u hu => pw_lt hu) r x hx)
/-- heldSide(v, slot, r) -/
def hsd (A : Nat → Nat → Option Nat) (f : Nat → Int32) (n rt x s : Nat) (r : Int32) : Int32 := match s with
  | 0 => bif decide (r < f (12 * rt + x)) then -1 else f (12 * rt + x) - f (12 * rt + x) / 2 * 2
  | 2 => bif decide (r < f (12 * rt + x)) then 0 else f (12 * rt + x)
  | _ => bif anyb (fun u => (A u x).isSome && decide (f (12 * rt + u) = f (12 * rt + x))) n && !decide (r ≤ f (12 * rt + x)) then 1 else 0
theorem m_heldSide (N : MN S n q fa fb) (hrt : rt < n) (hr : S 38 9 = nI rt) (x s : Nat) (r : Int32) (hx : x < n) (hs : s < 3) : AW g (d + 2) 0 0 145 0 (am_L0 145 [.ref 38, .int (nI x), .int (nI s), .int r]) [] (mem ch S) (am_is (some (.int (hsd (bt fa fb q) (S 43) n rt x s r))) (mem ch S)) := by
  have hn := N.2.1
  refine am_aload_n rfl rfl rfl ?_
  refine am_aload_n rfl rfl rfl ?_
  refine am_get rfl rfl rfl ?_
  rw [hr]
  refine am_iload_n rfl rfl ?_
  refine am_Vx [.int (nI rt), .int (nI x)] rfl rfl rfl rfl rfl rfl (m_far (d := _) rt x (by omega) (by omega)) ?_
  refine am_istore rfl ?_
  match s, hs with
  | 0, _ =>
    refine am_iload_n rfl rfl ?_
    refine am_if_ne rfl (fun h => absurd rfl h) (fun _ => ?_)
    refine am_iload rfl rfl ?_
    refine am_iload_n rfl rfl ?_
    refine am_icmp_gt rfl (fun h10 => ?_) (fun h10 => ?_)
    · refine am_iconst rfl ?_
      refine am_ireturn rfl (fun h => absurd h (by decide)) ⟨?_, rfl⟩
      simp only [hsd, decide_eq_true h10, cond_true, cond_false]
    · refine am_iload rfl rfl ?_
      refine am_iconst rfl ?_
      refine am_irem rfl (by decide) ?_
      refine am_goto rfl ?_
      refine am_ireturn rfl (fun h => absurd h (by decide)) ⟨?_, rfl⟩
      simp only [hsd, decide_eq_false h10, cond_true, cond_false]
  | 2, _ =>
    refine am_iload_n rfl rfl ?_
    refine am_if_ne rfl (fun _ => ?_) (fun h => absurd h (by decide))
    refine am_iload_n rfl rfl ?_
    refine am_iconst rfl ?_
    refine am_icmp_ne rfl (fun h => absurd rfl h) (fun _ => ?_)
    refine am_iload rfl rfl ?_
    refine am_iload_n rfl rfl ?_
    refine am_icmp_gt rfl (fun h22 => ?_) (fun h22 => ?_)
    · refine am_iconst rfl ?_
      refine am_ireturn rfl (fun h => absurd h (by decide)) ⟨?_, rfl⟩
      simp only [hsd, decide_eq_true h22, cond_true, cond_false]
    · refine am_iload rfl rfl ?_
      refine am_goto rfl ?_
      refine am_ireturn rfl (fun h => absurd h (by decide)) ⟨?_, rfl⟩
      simp only [hsd, decide_eq_false h22, cond_true, cond_false]
  | 1, _ =>
    refine am_iload_n rfl rfl ?_
    refine am_if_ne rfl (fun _ => ?_) (fun h => absurd h (by decide))
    refine am_iload_n rfl rfl ?_
    refine am_iconst rfl ?_
    refine am_icmp_ne rfl (fun _ => ?_) (fun h => absurd h (by decide))
    refine am_iconst rfl ?_
    refine am_istore rfl ?_
    refine am_iconst rfl ?_
    refine am_istore rfl ?_
    show AW g _ 0 0 145 31 [some (.ref 38), some (.int (nI x)), some (.int (nI 1)), some (.int r), some (.int (S 43 (12 * rt + x))), some (.int (bi (anyb (fun u => (bt fa fb q u x).isSome && decide (S 43 (12 * rt + u) = S 43 (12 * rt + x))) 0))), some (.int (nI 0))] [] _ _
    refine am_for (n) (fun v => [some (.ref 38), some (.int (nI x)), some (.int (nI 1)), some (.int (r)), some (.int (S 43 (12 * rt + x))), some (.int (bi (anyb (fun u => (bt fa fb q u x).isSome && decide (S 43 (12 * rt + u) = S 43 (12 * rt + x))) v))), some (.int (nI v))]) (fun v => mem ch S) (fun v hv k => ?_) ?_ (n) 0 (by omega)
    · refine am_iload rfl rfl ?_
      refine am_aload_n rfl rfl rfl ?_
      refine am_get rfl rfl rfl ?_
      refine am_icmp_ge rfl (fun h => absurd h (nm_lt N.1 hn hv)) (fun _ => ?_)
      refine am_iload rfl rfl ?_
      refine am_if_ne rfl (fun h36 => ?_) (fun h36 => ?_)
      · refine am_iconst rfl ?_
        refine am_goto rfl ?_
        refine am_istore rfl ?_
        refine am_iinc rfl rfl ?_
        refine am_goto rfl ?_
        simp only [anyb, bi_1 h36, Bool.true_or, Bool.false_or, Bool.true_and, Bool.false_and, nI_succ] at k
        exact k
      · refine am_aload_n rfl rfl rfl ?_
        refine am_iload rfl rfl ?_
        refine am_iload_n rfl rfl ?_
        refine am_Vx [.int (nI v), .int (nI x)] rfl rfl rfl rfl rfl rfl (m_areN (d := _) N (v) (x) (by omega) (by omega)) ?_
        refine am_if_eq rfl (fun h41 => ?_) (fun h41 => ?_)
        · refine am_iconst rfl ?_
          refine am_istore rfl ?_
          refine am_iinc rfl rfl ?_
          refine am_goto rfl ?_
          simp only [anyb, bi_0 h36, bi_0 h41, Bool.true_or, Bool.false_or, Bool.true_and, Bool.false_and, nI_succ] at k
          exact k
        · refine am_aload_n rfl rfl rfl ?_
          refine am_aload_n rfl rfl rfl ?_
          refine am_get rfl rfl rfl ?_
          rw [hr]
          refine am_iload rfl rfl ?_
          refine am_Vx [.int (nI rt), .int (nI v)] rfl rfl rfl rfl rfl rfl (m_far (d := _) rt v (by omega) (by omega)) ?_
          refine am_iload rfl rfl ?_
          refine am_icmp_ne rfl (fun h48 => ?_) (fun h48 => ?_)
          · refine am_iconst rfl ?_
            refine am_istore rfl ?_
            refine am_iinc rfl rfl ?_
            refine am_goto rfl ?_
            simp only [anyb, bi_0 h36, bi_1 h41, decide_eq_false h48, Bool.true_or, Bool.false_or, Bool.true_and, Bool.false_and, nI_succ] at k
            exact k
          · refine am_iconst rfl ?_
            refine am_goto rfl ?_
            refine am_istore rfl ?_
            refine am_iinc rfl rfl ?_
            refine am_goto rfl ?_
            simp only [anyb, bi_0 h36, bi_1 h41, decide_eq_true h48, Bool.true_or, Bool.false_or, Bool.true_and, Bool.false_and, nI_succ] at k
            exact k
    · refine am_iload rfl rfl ?_
      refine am_aload_n rfl rfl rfl ?_
      refine am_get rfl rfl rfl ?_
      refine am_icmp_ge rfl (fun _ => ?_) (fun h => absurd (nm_ge N.1 hn) h)
      refine am_iload rfl rfl ?_
      refine am_if_eq rfl (fun h56 => ?_) (fun h56 => ?_)
      · refine am_iconst rfl ?_
        refine am_ireturn rfl (fun h => absurd h (by decide)) ⟨?_, rfl⟩
        simp only [hsd, bi_0 h56, Bool.true_and, Bool.false_and, Bool.not_true, Bool.not_false, cond_true, cond_false]
      · refine am_iload_n rfl rfl ?_
        refine am_iload rfl rfl ?_
        refine am_icmp_le rfl (fun h59 => ?_) (fun h59 => ?_)
        · refine am_iconst rfl ?_
          refine am_ireturn rfl (fun h => absurd h (by decide)) ⟨?_, rfl⟩
          simp only [hsd, bi_1 h56, decide_eq_true h59, Bool.true_and, Bool.false_and, Bool.not_true, Bool.not_false, cond_true, cond_false]
        · refine am_iconst rfl ?_
          refine am_goto rfl ?_
          refine am_ireturn rfl (fun h => absurd h (by decide)) ⟨?_, rfl⟩
          simp only [hsd, bi_1 h56, decide_eq_false h59, Bool.true_and, Bool.false_and, Bool.not_true, Bool.not_false, cond_true, cond_false]
  | s + 3, hs => exact absurd hs (by omega)
end MM9
