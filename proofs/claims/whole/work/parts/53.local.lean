/-! a round's change, node by node -/
section LOC
variable {S : am_S0} {n : Nat} {E : Nat → Nat → Option Nat} {p : Nat → Option Nat}
theorem tri_w3_s {v : Nat} {x y z : Int32} : tri (w3 S v x y z) v = (x, y, z) := by
  show (upd (S 20) v x v, upd (S 21) v y v, upd (S 22) v z v) = _
  rw [pk_us, pk_us, pk_us]
theorem tri_w3_o {v j : Nat} {x y z : Int32} (h : j ≠ v) : tri (w3 S v x y z) j = tri S j := by
  show (upd (S 20) v x j, upd (S 21) v y j, upd (S 22) v z j) = _
  rw [pk_un h, pk_un h, pk_un h]
  rfl
theorem tri_w2_s {v : Nat} {x y : Int32} : tri (w2 S v x y) v = (x, y, (tri S v).2.2) := by
  show (upd (S 20) v x v, upd (S 21) v y v, S 22 v) = _
  rw [pk_us, pk_us]
  rfl
theorem tri_w2_o {v j : Nat} {x y : Int32} (h : j ≠ v) : tri (w2 S v x y) j = tri S j := by
  show (upd (S 20) v x j, upd (S 21) v y j, S 22 j) = _
  rw [pk_un h, pk_un h]
  rfl
theorem lrn_s (v : Nat) : ∀ k, tri (itr (lrn1 E v) k S) v = itr (lt0 E v (S 24) (S 25)) k (tri S v)
  | 0 => rfl
  | k + 1 => by
    have A : Ag S (itr (lrn1 E v) k S) := Ag.itr (lrn1_ag v) k S
    rw [itr_s, itr_s, ← lrn_s v k]
    generalize itr (lrn1 E v) k S = S1 at A
    unfold lrn1 lt0
    rw [A 24 (by decide) (by decide) (by decide), A 25 (by decide) (by decide) (by decide)]
    show tri (bif (E v k).isSome && decide (S 24 k < (tri S1 v).1) then _ else _) v = _
    cases ((E v k).isSome && decide (S 24 k < (tri S1 v).1))
    · rfl
    · exact tri_w3_s
theorem lrn_o {v j : Nat} (h : j ≠ v) : ∀ k, tri (itr (lrn1 E v) k S) j = tri S j
  | 0 => rfl
  | k + 1 => by
    rw [itr_s, ← lrn_o h k]
    generalize itr (lrn1 E v) k S = S1
    unfold lrn1
    cases ((E v k).isSome && decide (S1 24 k < S1 20 v))
    · rfl
    · exact tri_w3_o h
theorem chA0 {v : Nat} (hv : v < n) : tri (chA 0 E n p S) v = itr (lt0 E v (S 24) (S 25)) n (tri S v) := by
  show tri (itr (lrn E n) n S) v = _
  rw [tri_itr (φ := fun v t => itr (lt0 E v (S 24) (S 25)) n t) S lrn_ag (fun v S1 A => by
    show tri (itr (lrn1 E v) n S1) v = _
    rw [lrn_s, A 24 (by decide) (by decide) (by decide), A 25 (by decide) (by decide) (by decide)]) (fun v j S1 A h => lrn_o h n) n v, if_pos hv]
def sh1 (E : Nat → Nat → Option Nat) (v : Nat) (b0 w : Nat → Int32) (rr : Int32) (u : Nat) (t : T3) : T3 := match E v u with
  | none => t
  | some e => bif decide (b0 u = -1) then t else bif decide (t.1 = -1) || decide (b0 u + w e < t.1) then (b0 u + w e, nI u, rr) else t
theorem srt_s (v : Nat) : ∀ k, tri (itr (srt1 E v) k S) v = itr (sh1 E v (S 24) (S 4) (S 1 6)) k (tri S v)
  | 0 => rfl
  | k + 1 => by
    have A : Ag S (itr (srt1 E v) k S) := Ag.itr (srt1_ag v) k S
    rw [itr_s, itr_s, ← srt_s v k]
    generalize itr (srt1 E v) k S = S1 at A
    unfold srt1 sh1
    rw [A 24 (by decide) (by decide) (by decide), A 4 (by decide) (by decide) (by decide), A 1 (by decide) (by decide) (by decide)]
    cases E v k with
    | none => rfl
    | some e =>
      show tri (bif decide (S 24 k = -1) then S1 else bif decide ((tri S1 v).1 = -1) || decide (S 24 k + S 4 e < (tri S1 v).1) then _ else _) v = bif decide (S 24 k = -1) then _ else _
      cases decide (S 24 k = -1)
      · cases (decide ((tri S1 v).1 = -1) || decide (S 24 k + S 4 e < (tri S1 v).1))
        · rfl
        · exact tri_w3_s
      · rfl
theorem srt_o {v j : Nat} (h : j ≠ v) : ∀ k, tri (itr (srt1 E v) k S) j = tri S j
  | 0 => rfl
  | k + 1 => by
    rw [itr_s, ← srt_o h k]
    generalize itr (srt1 E v) k S = S1
    unfold srt1
    cases E v k with
    | none => rfl
    | some e =>
      show tri (bif decide (S1 24 k = -1) then S1 else bif decide (S1 20 v = -1) || decide (S1 24 k + S1 4 e < S1 20 v) then _ else _) j = _
      cases decide (S1 24 k = -1)
      · cases (decide (S1 20 v = -1) || decide (S1 24 k + S1 4 e < S1 20 v))
        · rfl
        · exact tri_w3_o h
      · rfl
theorem chA1 {v : Nat} (hv : v < n) : tri (chA 1 E n p S) v = itr (sh1 E v (S 24) (S 4) (S 1 6)) n (tri S v) := by
  show tri (itr (srt E n) n S) v = _
  rw [tri_itr (φ := fun v t => itr (sh1 E v (S 24) (S 4) (S 1 6)) n t) S srt_ag (fun v S1 A => by
    show tri (itr (srt1 E v) n S1) v = _
    rw [srt_s, A 24 (by decide) (by decide) (by decide), A 4 (by decide) (by decide) (by decide), A 1 (by decide) (by decide) (by decide)]) (fun v j S1 A h => srt_o h n) n v, if_pos hv]
theorem chA3 {v : Nat} (hv : v < n) : tri (chA 3 E n p S) v = (col S p v, (tri S v).2) := by
  show tri (itr (chg3 p) n S) v = _
  rw [tri_itr (φ := fun v t => (col S p v, t.2)) S (chg3_ag p) (fun v S1 A => by
    show (upd (S1 20) v (col S1 p v) v, S1 21 v, S1 22 v) = _
    rw [pk_us]
    unfold col
    rw [A 24 (by decide) (by decide) (by decide)]
    rfl) (fun v j S1 A h => by
    show (upd (S1 20) v (col S1 p v) j, S1 21 j, S1 22 j) = _
    rw [pk_un h]
    rfl) n v, if_pos hv]
def ph4 (S : am_S0) (E : Nat → Nat → Option Nat) (n v : Nat) (t : T3) : T3 := bif decide (S 24 v = 0) then (bif win S E n v then (1, S 1 6, t.2.2) else bif bes S E n v then (2, S 1 6, t.2.2) else t) else t
theorem win_ag {S1 : am_S0} (A : Ag S S1) (v : Nat) : win S1 E n v = win S E n v := by
  unfold win
  rw [A 24 (by decide) (by decide) (by decide), A 3 (by decide) (by decide) (by decide)]
theorem bes_ag {S1 : am_S0} (A : Ag S S1) (v : Nat) : bes S1 E n v = bes S E n v := by
  unfold bes
  have e : win S1 E n = win S E n := funext (win_ag A)
  rw [A 24 (by decide) (by decide) (by decide), e]
theorem chA4 {v : Nat} (hv : v < n) : tri (chA 4 E n p S) v = ph4 S E n v (tri S v) := by
  show tri (itr (chg4 E n) n S) v = _
  rw [tri_itr (φ := ph4 S E n) S chg4_ag (fun v S1 A => by
    unfold chg4 ph4 dcd
    rw [win_ag A, bes_ag A, A 24 (by decide) (by decide) (by decide), A 1 (by decide) (by decide) (by decide)]
    cases decide (S 24 v = 0)
    · rfl
    · cases win S E n v
      · cases bes S E n v
        · rfl
        · exact tri_w2_s
      · exact tri_w2_s) (fun v j S1 A h => by
    unfold chg4 dcd
    cases decide (S1 24 v = 0)
    · rfl
    · cases win S1 E n v
      · cases bes S1 E n v
        · rfl
        · exact tri_w2_o h
      · exact tri_w2_o h) n v, if_pos hv]
def ph5 (S : am_S0) (E : Nat → Nat → Option Nat) (n v : Nat) (t : T3) : T3 := match fav S E n v with
  | none => t
  | some u => bif decide (fav S E n u = some v) then (nI u, S 1 6, t.2.2) else t
theorem fav_ag {S1 : am_S0} (A : Ag S S1) (v : Nat) : fav S1 E n v = fav S E n v := by
  have e : fav1 S1 E v = fav1 S E v := by
    funext u b
    unfold fav1
    rw [A 24 (by decide) (by decide) (by decide), A 4 (by decide) (by decide) (by decide)]
  unfold fav
  rw [A 24 (by decide) (by decide) (by decide), e]
theorem chA5 {v : Nat} (hv : v < n) : tri (chA 5 E n p S) v = ph5 S E n v (tri S v) := by
  show tri (itr (chg5 E n) n S) v = _
  rw [tri_itr (φ := ph5 S E n) S chg5_ag (fun v S1 A => by
    unfold chg5 ph5
    rw [fav_ag A, A 1 (by decide) (by decide) (by decide)]
    cases fav S E n v with
    | none => rfl
    | some u =>
      show tri (bif decide (fav S1 E n u = some v) then _ else _) v = bif decide (fav S E n u = some v) then _ else _
      rw [fav_ag A]
      cases decide (fav S E n u = some v)
      · rfl
      · exact tri_w2_s) (fun v j S1 A h => by
    unfold chg5
    cases fav S1 E n v with
    | none => rfl
    | some u =>
      show tri (bif decide (fav S1 E n u = some v) then _ else _) j = _
      cases decide (fav S1 E n u = some v)
      · rfl
      · exact tri_w2_o h) n v, if_pos hv]
def ph6 (S : am_S0) (E : Nat → Nat → Option Nat) (n v : Nat) (t : T3) : T3 := bif decide (S 24 v = 1) then (bif decide (nI (nbw E n (S 24) v 1) < S 1 5) then (0, S 1 6, nI (nbw E n (S 24) v 1)) else (t.1, t.2.1, nI (nbw E n (S 24) v 1))) else t
theorem chA6 {v : Nat} (hv : v < n) : tri (chA 6 E n p S) v = ph6 S E n v (tri S v) := by
  show tri (itr (chg6 E n) n S) v = _
  rw [tri_itr (φ := ph6 S E n) S chg6_ag (fun v S1 A => by
    unfold chg6 ph6
    rw [A 24 (by decide) (by decide) (by decide), A 1 (by decide) (by decide) (by decide)]
    cases decide (S 24 v = 1)
    · rfl
    · cases decide (nI (nbw E n (S 24) v 1) < S 1 5)
      · show (S1 20 v, S1 21 v, upd (S1 22) v _ v) = _
        rw [pk_us]
        rfl
      · exact tri_w3_s) (fun v j S1 A h => by
    unfold chg6
    cases decide (S1 24 v = 1)
    · rfl
    · cases decide (nI (nbw E n (S1 24) v 1) < S1 1 5)
      · show (S1 20 j, S1 21 j, upd (S1 22) v _ j) = _
        rw [pk_un h]
        rfl
      · exact tri_w3_o h) n v, if_pos hv]
end LOC
