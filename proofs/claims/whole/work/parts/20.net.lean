/-! the class: Net, its reads -/
section CNET
variable {g : am_G} {d : Nat} {ch : Option Nat} {S : am_S0}
def b2i (p : Prop) [Decidable p] : Int32 := if p then 1 else 0
theorem b2i_01 (p : Prop) [Decidable p] : b2i p = 0 ∨ b2i p = 1 := by unfold b2i; split <;> simp
/-- hasNode(v) -/
theorem s_hasNode (x : Int32) : AW g d 0 0 20 0 (am_L0 20 [.ref 2, .int x]) [] (mem ch S) (am_is (some (.int (b2i (0 ≤ x ∧ x < S 2 4)))) (mem ch S)) := by
  refine am_iload_n rfl rfl ?_
  refine am_if_lt rfl (fun h1 => ?_) (fun h1 => ?_)
  · refine am_iconst rfl ?_
    refine am_ireturn rfl (fun _ => by decide) ⟨?_, rfl⟩
    rw [b2i, if_neg (by rintro ⟨h2, -⟩; exact absurd h1 (Int32.not_lt.mpr h2))]
  · refine am_iload_n rfl rfl ?_
    refine am_aload_n rfl rfl rfl ?_
    refine am_get rfl rfl rfl ?_
    refine am_icmp_ge rfl (fun h2 => ?_) (fun h2 => ?_)
    · refine am_iconst rfl ?_
      refine am_ireturn rfl (fun _ => by decide) ⟨?_, rfl⟩
      rw [b2i, if_neg (by rintro ⟨-, h3⟩; exact absurd h3 (Int32.not_lt.mpr h2))]
    · refine am_iconst rfl ?_
      refine am_goto rfl ?_
      refine am_ireturn rfl (fun _ => by decide) ⟨?_, rfl⟩
      rw [b2i, if_pos ⟨Int32.not_lt.mp h1, Int32.not_le.mp h2⟩]
/-- areNeighbours(a, b) -/
theorem s_areN (u w : Nat) (hu : u < 12) (hw : w < 12) : AW g d 0 0 21 0 (am_L0 21 [.ref 2, .int (nI u), .int (nI w)]) [] (mem ch S) (am_is (some (.int (b2i (¬ S (6 + u) w = -1)))) (mem ch S)) := by
  refine am_aload_n rfl rfl rfl ?_
  refine am_get rfl rfl rfl ?_
  refine am_iload_n rfl rfl ?_
  refine am_aald rfl rfl (Or.inl rfl) rfl hu (by decide) (if_pos hu) ?_
  refine am_iload_n rfl rfl ?_
  refine am_iald rfl (mem_eb u hu) rfl hw (by decide) ?_
  refine am_iconst rfl ?_
  refine am_icmp_eq rfl (fun h2 => ?_) (fun h2 => ?_)
  · refine am_iconst rfl ?_
    refine am_ireturn rfl (fun _ => by decide) ⟨?_, rfl⟩
    rw [b2i, if_neg (fun h => h h2)]
  · refine am_iconst rfl ?_
    refine am_goto rfl ?_
    refine am_ireturn rfl (fun _ => by decide) ⟨?_, rfl⟩
    rw [b2i, if_pos h2]
end CNET
