/-! calls: every word of lw_tbl stays, so one list of words serves every method -/
def am_gw (w : Cond) : Bool := (w.onTables && (w.keeps || w.keepsFace)) || (match w with
  | .methodLinkNest .. | .arrayClass _ | .arrayOver _ => true
  | _ => false)
set_option maxRecDepth 100000 in
theorem am_gws : lw_tbl.all am_gw = true := by decide +kernel
/-- an array over arrays: what its word says, and that it stays -/
def am_isA (comp : ClassId) (x : Class) : Bool := match x.kind with
  | .array component _ => component == comp
  | _ => false
theorem am_AOs {t : FieldType} {args : Array Value} {u : State} (h : (Cond.arrayOver (.array t)).before args u = true) : ∃ (comp c : ClassId) (k : Class), u.vm.findClass (FieldType.array t).toString = some comp ∧ (u.vm.classes.findIdx? fun (x : Class) => match x.kind with | .array component _ => component == comp | _ => false) = some c ∧ u.vm.classes[c]? = some k ∧ k.kind = .array comp (.array t) ∧ u.vm.findClass ("[" ++ (FieldType.array t).toString) = some c := by
  unfold Cond.before Cond.holds at h
  simp only [Cond.value, beq_iff_eq] at h
  cases hc : u.vm.findClass (FieldType.array t).toString with
  | none => simp [hc] at h
  | some comp =>
    simp only [hc, Option.bind_some, Option.bind_eq_some_iff, Option.map_eq_some_iff] at h
    obtain ⟨c, hi, k, hk, hb⟩ := h
    obtain ⟨hlt, hp, -⟩ := Array.findIdx?_eq_some_iff_getElem.mp hi
    have hkk : u.vm.classes[c] = k := (Array.getElem?_eq_some_iff.mp hk).2
    rw [hkk] at hp
    cases hkind : k.kind with
    | array component ty =>
      rw [hkind] at hb hp
      simp at hb hp
      exact ⟨comp, c, k, rfl, hi, hk, by rw [hkind, hp, hb.1], hb.2⟩
    | _ => rw [hkind] at hb; simp at hb
theorem am_AOm {t : FieldType} {args a' : Array Value} {u U : State} (hvm : u.vm.Alike U.vm) (h : (Cond.arrayOver (.array t)).before args u = true) : (Cond.arrayOver (.array t)).before a' U = true := by
  obtain ⟨comp, c, k, h1, h2, h3, h4, h5⟩ := am_AOs h
  obtain ⟨k', hk', he⟩ := hvm.2.2 _ _ h3
  have hi : U.vm.classes.findIdx? (am_isA comp) = some c := by
    have b1 : U.vm.bare.classes.findIdx? (am_isA comp) = U.vm.classes.findIdx? (am_isA comp) := va_idx_bare U.vm comp
    have b2 : u.vm.bare.classes.findIdx? (am_isA comp) = u.vm.classes.findIdx? (am_isA comp) := va_idx_bare u.vm comp
    have h2 : u.vm.classes.findIdx? (am_isA comp) = some c := h2
    rw [← b1]
    first | rw [hvm.bare_eq] | rw [← hvm.bare_eq]
    rw [b2]
    exact h2
  have hkind : k'.kind = .array comp (.array t) := by rw [he]; exact h4
  have f1 : U.vm.findClass (FieldType.array t).toString = some comp := by rw [hvm.findClass]; exact h1
  have f2 : U.vm.findClass ("[" ++ (FieldType.array t).toString) = some c := by rw [hvm.findClass]; exact h5
  unfold Cond.before Cond.holds
  simp only [Cond.value]
  rw [f1, Option.bind_some]
  refine (congrArg (fun o : Option Nat => (o.bind (fun c => (U.vm.classes[c]?).map fun (k : Class) => match k.kind with | .array _ ty => decide (ty = FieldType.array t) && decide (U.vm.findClass ("[" ++ (FieldType.array t).toString) = some c) | _ => false) == some true)) hi).trans ?_
  simp [hk', hkind, f2]
theorem am_AOw {ty : FieldType} {args a' : Array Value} {s U : State} (hW : s.WarmedH U.vm) (h : (Cond.arrayOver ty).before args s = true) : (Cond.arrayOver ty).before a' U = true := by
  cases ty with
  | object C => exact va_AO.use (va_AO.moved hW.alike (va_AO.of h))
  | array t => exact am_AOm hW.alike h
  | _ =>
    unfold Cond.before Cond.holds at h
    simp [Cond.value] at h
theorem am_warm {args a' : Array Value} {s U : State} (hW : s.WarmedH U.vm) {w : Cond} (hw : am_gw w = true) (h : w.before args s = true) : w.before a' U = true := by
  unfold am_gw at hw
  rw [Bool.or_eq_true] at hw
  rcases hw with hw | hw
  · rw [Bool.and_eq_true, Bool.or_eq_true] at hw
    rcases hw.2 with hk | hk
    · exact word_at hW (Or.inl (by rw [hw.1, hk]; rfl)) h
    · have h1 : w.before args (s.setVm U.vm) = true := Cond.before_shiftedFace (State.Shifted.of_warmed hW) _ hk h
      have h2 := Cond.onTables_vm (A := args) (A' := a') (U := s) (U' := U) U.vm w hw.1
      rw [h2] at h1
      exact h1
  · cases w <;> first | (cases hw; done) | skip
    all_goals first
      | exact va_Nw.use rfl (va_Nw.warmM hW (va_Nw.of rfl h))
      | exact word_at hW (Or.inr ⟨_, rfl⟩) h
      | exact am_AOw hW h
theorem am_hts {args a' : Array Value} {s U : State} (hW : s.WarmedH U.vm) (hts : ∀ w ∈ lw_tbl, w.before args s = true) : ∀ w ∈ lw_tbl, w.before a' U = true := fun w h => am_warm hW (List.all_eq_true.mp am_gws w h) (hts w h)
theorem am_Sy.moved {g : am_G} {u U : State} (hvm : u.vm.Alike U.vm) (h : am_Sy g u) : am_Sy g U := ⟨va_K.moved hvm h.1, fun t ty ht => ⟨arrOfT_moved hvm (h.2 t ty ht).1, by rw [hvm.findClass]; exact (h.2 t ty ht).2⟩⟩
theorem am_H.moved {g : am_G} {u U : State} {M : am_M} {H : Heap} (hvm : u.vm.Alike U.vm) (h : am_H g u M H) : am_H g U M H := ⟨h.1, h.2.1, h.2.2.1.moved hvm, h.2.2.2⟩
def am_ws (m : Nat) : List Cond := .code (am_y m) (am_b m) (am_mL m) (am_r m) :: lw_tbl
def am_rm (d nc ns : Nat) : Room := { frames := d, cells := nc, slots := ns, locals := 40 * d }
def am_Pc (g : am_G) (as : List Value) (M : am_M) : Array Value → State → Prop := fun v U => v = (as.map (am_v g)).toArray ∧ am_Sy g U ∧ am_H g U M U.heap
def am_rk : Option Value → Prop
  | none => True
  | some (.int _) => True
  | _ => False
def am_Qc (g : am_G) (K : am_K) : Array Value → State → Outcome → State → Prop := fun _ st o t => ∃ (r : Option Value) (M' : am_M), o = .returned (r.map (am_v g)) ∧ am_rk r ∧ K r M' ∧ am_H g t M' t.heap ∧ va_F (am_A g) st t
theorem am_blind (g : am_G) (as : List Value) (M : am_M) : FrameBlind (am_Pc g as M) := by
  intro a U fr mk h
  obtain ⟨h1, h2, h3⟩ := h
  exact ⟨h1, am_Sy.moved (u := U) (U := U.calling fr mk a) (Vm.Alike.refl U.vm) h2, am_H.moved (u := U) (U := U.calling fr mk a) (Vm.Alike.refl U.vm) h3⟩
/-- a frame's locals at its start -/
def am_L0 (m : Nat) (as : List Value) : am_L := as.map some ++ List.replicate (am_mL m - as.length) none
theorem am_args : ∀ (vs : List Value) (k j : Nat) (v : Value), (∀ v ∈ vs, v.category = 1) → vs[j]? = some v → (k + j, v) ∈ lv_args k vs
  | [], k, j, v, _, h => by simp at h
  | u :: vs, k, 0, v, _, h => by
    simp at h
    subst h
    exact List.mem_cons_self
  | u :: vs, k, j + 1, v, hc, h => by
    rw [List.getElem?_cons_succ] at h
    have hu : ¬ u.category = 2 := by rw [hc u List.mem_cons_self]; decide
    show _ ∈ (k, u) :: lv_args (if u.category = 2 then k + 2 else k + 1) vs
    rw [if_neg hu, show k + (j + 1) = k + 1 + j by omega]
    exact List.mem_cons_of_mem _ (am_args vs (k + 1) j v (fun v h => hc v (List.mem_cons_of_mem _ h)) h)
theorem am_sl_len : ∀ vs : List Value, (∀ v ∈ vs, v.category = 1) → (lg_sl vs).length = vs.length
  | [], _ => rfl
  | u :: vs, hc => by
    have hu : ¬ u.category = 2 := by rw [hc u List.mem_cons_self]; decide
    have ih := am_sl_len vs (fun v h => hc v (List.mem_cons_of_mem _ h))
    unfold lg_sl at ih ⊢
    rw [List.flatMap_cons, if_neg hu, List.length_append, ih]
    simp
    omega
set_option maxHeartbeats 1000000 in
/-- a method's contract out of its walk -/
theorem am_met {g : am_G} {d nc ns m : Nat} {as : List Value} {M : am_M} {K : am_K} (hy : plainName (am_y m).cls = true) (hp : am_pc m 0 = 0) (hlen : as.length ≤ am_mL m) (hcat : ∀ v ∈ as, v.category = 1) (k : AW g d nc ns m 0 (am_L0 m as) [] M K) :
    Met g.1 (am_y m) (am_ws m) (am_rm d nc ns) (am_Pc g as M) (am_Qc g K) nc ns (am_A g) := by
  refine Met.ofW (cc := am_b m) (maxL := am_mL m) (ret := am_r m) hy rfl ?_
  intro p e s mid args below meth c s₁ B hml hv
  obtain ⟨rfl, hSy, hH⟩ := hv
  have hts := atoms_spec (ws := am_ws m) B.pre
  have hown := findClass_of_methodNamed B.named
  have hnm := (name_of_methodNamed B.named B.method).1
  have hcat2 : ∀ v ∈ as.map (am_v g), v.category = 1 := by
    intro v hv
    obtain ⟨u, hu, rfl⟩ := List.mem_map.mp hv
    exact am_cat (hcat u hu)
  have hsl := am_sl_len _ hcat2
  rw [List.length_map] at hsl
  have hl := lv_entry (as.map (am_v g)) (n := am_mL m) (by rw [hsl]; exact hlen)
  rw [lg_entry_eq]
  generalize (lg_sl (as.map (am_v g)) ++ List.replicate (am_mL m - (lg_sl (as.map (am_v g))).length) Slot.unset).toArray = ls at hl ⊢
  have hL : am_Lr g ls (am_mL m) (am_L0 m as) := by
    refine ⟨hl.1, hl.2.1, by simp [am_L0]; omega, fun i v hv => ?_⟩
    unfold am_L0 at hv
    by_cases hi : i < as.length
    · rw [List.getElem?_append_left (by rw [List.length_map]; exact hi), List.getElem?_map] at hv
      have hv2 : as[i]? = some v := by
        cases h9 : as[i]? with
        | none => rw [h9] at hv; cases hv
        | some u => rw [h9] at hv; simp at hv; rw [hv]
      refine ⟨hcat v (List.mem_of_getElem? hv2), ?_⟩
      have := am_args (as.map (am_v g)) 0 i (am_v g v) hcat2 (by rw [List.getElem?_map, hv2]; rfl)
      rw [Nat.zero_add] at this
      exact hl.2.2 _ this
    · rw [List.getElem?_append_right (by rw [List.length_map]; omega)] at hv
      have := List.mem_of_getElem? hv
      have := List.eq_of_mem_replicate this
      cases this
  have hw : ∀ w ∈ lw_tbl, w.before (as.map (am_v g)).toArray s = true := fun w h => hts w (List.mem_cons_of_mem _ h)
  have hbs : am_base g ≤ s.heap.size := by have := hH.1; omega
  have fin := k p e (am_rm d nc ns) s mid (as.map (am_v g)).toArray below meth c s.heap [] 0 0 (MQ below (am_Qc g K) (as.map (am_v g)).toArray s nc ns (am_A g)) ls ⟨B.exec, B.bytes, B.returns, hml, hown, fun h9 => hnm.trans h9, B.notSynchronized, hw, hSy, hbs⟩ (Nat.le_refl _) (Nat.le_refl _) (by show 0 + nc ≤ nc; omega) (by show 0 + ns ≤ ns; omega) hH va_S.rf hL
    (fun r M' H' locs' cells' slots' j ls' hk hH' hS' hc' hs' hrt => by
      refine W.widen (k := nc) (n := ns) hc' hs' ?_
      have hlocks := B.notSynchronized
      have hfr : ∀ q ∈ locs', am_A g q.base := hS'.2.2
      match r, hrt, hk with
      | none, hrt, hk =>
        exact W.vret B.exec B.bytes (B.returns.trans hrt.2) (fun t ht hW => ⟨none, M', rfl, trivial, hk, by rw [ht]; exact hH'.moved hW.alike, hS'.F ht⟩) hfr hrt.1
      | some (.int x), hrt, hk =>
        have hq : ∀ t : State, t.heap = H' → s.WarmedH t.vm → am_Qc g K (as.map (am_v g)).toArray s (.returned (some (.int x))) t := fun t ht hW => ⟨some (.int x), M', rfl, trivial, hk, by rw [ht]; exact hH'.moved hW.alike, hS'.F ht⟩
        rcases hrt.2 with h9 | ⟨h9, h8⟩
        · exact W.iret B.exec B.bytes (B.returns.trans h9) hq hfr hrt.1
        · exact W.zret (ty := .boolean) B.exec B.bytes (B.returns.trans h9) (by rcases h8 with rfl | rfl <;> rfl) hq hfr hrt.1)
  rw [hp] at fin
  exact fin
/-- behind a call -/
theorem am_back {g : am_G} {p : Program} {e : Env} {R : Room} {s : State} {mid : MethodId} {args : Array Value} {below : List Frame} {meth : Method} {c : Code} {H : Heap} {locs : List Loc} {cells slots nc ns pc : Nat} {Q : State → Prop} {ls : Array Slot} {st0 rest : List Value} {aa : Array Value} {K' : am_K}
    (hr : va_Run p g.1 e R s mid args below meth c H locs cells slots nc ns (F0 mid pc ls st0) rest (am_Qc g K' aa) (am_A g)) (hS : va_S (am_A g) s.heap H locs)
    (kk : ∀ (r : Option Value) (M' : am_M) (H1 : Heap) (locs1 : List Loc), K' r M' → am_rk r → am_H g s M' H1 → va_S (am_A g) s.heap H1 locs1 → W p g.1 e R s mid args below meth c H1 locs1 (cells + nc) (slots + ns) Q (F0 mid (pc + 3) ls ((r.map (am_v g)).toList ++ rest))) : W p g.1 e R s mid args below meth c H locs cells slots Q (F0 mid pc ls st0) := by
  intro T hT X
  obtain ⟨v, st₀, t, T', L, h0, X', hL, e1, e2, ⟨r, M', ho, hrk, hk, hH', hz, hf⟩, stp⟩ := hr T hT X
  have hv : v = r.map (am_v g) := Outcome.returned.inj ho
  subst hv
  rw [h0] at hz hf
  have hvm : t.vm.Alike s.vm := by rw [← e2]; exact X'.warmed.alike.symm
  obtain ⟨t2, a1, b1⟩ := kk r M' T'.heap (locs ++ L) hk hrk (by rw [e1]; exact hH'.moved hvm)
    ⟨Nat.le_trans hS.1 (by rw [e1]; exact hz), fun q h1 h2 => by rw [e1, hf q (Nat.lt_of_lt_of_le h1 hS.1) h2]; exact hS.2.1 q h1 h2, fun q hq => by
      rcases List.mem_append.mp hq with h | h
      · exact hS.2.2 q h
      · exact hL q h⟩ T' rfl X'
  exact ⟨t2, stp t2 a1, b1⟩
/-- what may be seen of a call by evaluation: the callee, its arguments, what lies below them -/
def am_okc (a b : Nat) (as st : List Value) : Bool := plainName (am_y a).cls && (am_pc a 0 == 0) && (as.length == b) && decide (as.length < am_mL a + 1) && decide (am_mL a ≤ 21) && as.all (fun v => v.category == 1) && decide ((st.map fun v => v.category).sum ≤ 8)
theorem am_stc {g : am_G} : ∀ st : List Value, ((st.map (am_v g)).map fun v => v.category).sum = (st.map fun v => v.category).sum
  | [] => rfl
  | v :: st => by
    rw [List.map_cons, List.map_cons, List.map_cons, List.sum_cons, List.sum_cons, am_stc st]
    congr 1
    cases v <;> rfl
theorem am_np_len {y : MethodName} {n : Nat} (h : am_np y n = true) : ∀ sig, parseMethodDescriptor y.desc = some sig → n = sig.parameters.length := by
  intro sig hs
  have := of_decide_eq_true h
  rw [hs] at this
  exact (Option.some.inj this).symm
theorem am_nm_ne {s : String} (h : am_nm s = true) : s ≠ "java/lang/invoke/MethodHandle" ∧ s ≠ "java/lang/invoke/VarHandle" := by
  unfold am_nm at h
  rw [Bool.and_eq_true, decide_eq_true_eq, decide_eq_true_eq] at h
  exact h
section AMC
variable {g : am_G} {d nc ns nc' ns' m i : Nat} {L : am_L} {st stk : List Value} {M : am_M} {K K' : am_K} {pc a b : Nat} {v : Int32} {ws : List Nat}
theorem am_wsh {args : Array Value} {s : State} (hts : ∀ w ∈ lw_tbl, w.before args s = true) (hc : Cond.code (am_y a) (am_b a) (am_mL a) (am_r a) ∈ lw_tbl) : ∀ w ∈ am_ws a, ∀ (a' : Array Value) (U : State), s.WarmedH U.vm → w.before a' U = true := by
  intro w hw a' U hW
  rcases List.mem_cons.mp hw with rfl | hw
  · exact am_hts hW hts _ hc
  · exact am_hts hW hts w hw
set_option maxHeartbeats 1000000 in
/-- invokevirtual of a method that is no abstract one -/
theorem am_cV {k9 o ci : Nat} {fs : List Value} (as : List Value) (h : am_op m i = some (.invokevirtual k9, pc, a, b, 0, ws)) (hst : stk = as.reverse ++ .ref o :: st) (ho : M[o]? = some (.inr (ci, fs))) (hci : am_cl[ci]? = some ((am_y a).cls, (am_kd ci).2.1, (am_kd ci).2.2)) (hok : am_okc a (b + 1) (.ref o :: as) st = true)
    (kc : AW g d nc' ns' a 0 (am_L0 a (.ref o :: as)) [] M K') (kk : ∀ (r : Option Value) (M' : am_M), K' r M' → am_rk r → AW g (d + 1) nc ns m (i + 1) L (r.toList ++ st) M' K) : AW g (d + 1) (nc + nc') (ns + ns') m i L stk M K := by
  subst hst
  obtain ⟨hd, hx⟩ := am_dec h
  simp only [am_cx, Bool.and_eq_true, beq_iff_eq, if_neg (show ¬ (0 : Int32) = 1 by decide)] at hx
  obtain ⟨hn, ⟨⟨⟨⟨⟨w0, w1⟩, w2⟩, w3⟩, w4⟩, w5⟩, w6⟩ := hx
  unfold am_okc at hok
  simp only [Bool.and_eq_true, beq_iff_eq, decide_eq_true_eq, List.all_eq_true] at hok
  obtain ⟨⟨⟨⟨⟨⟨k0, k1⟩, k2⟩, k3⟩, k4⟩, k5⟩, k6⟩ := hok
  intro p e R s mid args below meth c H locs cells slots Q ls C h1 h2 h3 h4 hH hS hL hQ
  obtain ⟨hx0, hb0, -, hml, hown, -, -, hts, hSy, -⟩ := id C
  have hM := am_met k0 k1 (by omega) k5 kc
  have hrun := va_runV (l := g.1) (e := e) (below := below) (meth := meth) (R := R) (locs := locs) (cells := cells) (slots := slots) (Ts := lw_tbl) (C := (am_y a).cls) (b := am_base g + o) (As := as.map (am_v g)) (rest := st.map (am_v g)) (n := b) (g := F0 mid (am_pc m i) ls ((as.reverse ++ .ref o :: st).map (am_v g))) (nL := am_mL m) ⟨hx0, hb0, hml, hown, hts⟩ hM
    ⟨⟨rfl, rfl, by show d + 1 ≤ _; omega, by show 8 + (am_mL a + 11) + 40 * d ≤ _; omega, am_wsh hts (am_wmem w4), List.mem_cons_self, am_word hts w4, am_word hts w3, am_nm_ne w5, am_np_len w6, am_word hts w0⟩, am_word hts w1, am_word hts w2⟩
    ⟨am_blind g _ _, va_recv (ci := ci) (q0 := 0) hSy.1 (am_P1 hH ho) hci rfl, fun U hU hW => ⟨rfl, hSy.moved hW.alike, by rw [hU]; exact hH.moved hW.alike⟩⟩ rfl (by rw [List.length_map]; simpa using k2) hL.1 (by show List.map _ _ = _; rw [List.map_append, List.map_reverse]; rfl) (lv_room (by rw [am_stc]; exact k6)) hd ⟨by omega, by omega⟩
  refine am_back hrun hS (fun r M' H1 locs1 hk hrk hH1 hS1 => ?_)
  have fin := kk r M' hk hrk p e R s mid args below meth c H1 locs1 (cells + nc') (slots + ns') Q ls C h1 h2 (by omega) (by omega) hH1 hS1 hL hQ
  rw [hn, List.map_append] at fin
  have e9 : (r.toList).map (am_v g) = (r.map (am_v g)).toList := by cases r <;> rfl
  rw [e9] at fin
  exact fin
end AMC
