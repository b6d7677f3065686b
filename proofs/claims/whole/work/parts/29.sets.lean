/-! a write into a cell that was written before -/
section MSET
variable {ch : Option Nat} {S : am_S0} {f f2 : Nat → Int32}
theorem ms43 : (mem ch (am_up S 43 f)).set 43 (.inl (0, 144, .inl f2)) = mem ch (am_up S 43 f2) := by
  show mem ch (am_up (am_up S 43 f) 43 f2) = _
  rw [am_up_up]
theorem mu43 : (mem ch S).set 43 (.inl (0, 144, .inl f2)) = mem ch (am_up S 43 f2) := rfl
theorem ms44 : (mem ch (am_up S 44 f)).set 44 (.inl (0, 12, .inl f2)) = mem ch (am_up S 44 f2) := by
  show mem ch (am_up (am_up S 44 f) 44 f2) = _
  rw [am_up_up]
theorem mu44 : (mem ch S).set 44 (.inl (0, 12, .inl f2)) = mem ch (am_up S 44 f2) := rfl
theorem ms45 : (mem ch (am_up S 45 f)).set 45 (.inl (0, 12, .inl f2)) = mem ch (am_up S 45 f2) := by
  show mem ch (am_up (am_up S 45 f) 45 f2) = _
  rw [am_up_up]
theorem mu45 : (mem ch S).set 45 (.inl (0, 12, .inl f2)) = mem ch (am_up S 45 f2) := rfl
theorem ms46 : (mem ch (am_up S 46 f)).set 46 (.inl (0, 12, .inl f2)) = mem ch (am_up S 46 f2) := by
  show mem ch (am_up (am_up S 46 f) 46 f2) = _
  rw [am_up_up]
theorem mu46 : (mem ch S).set 46 (.inl (0, 12, .inl f2)) = mem ch (am_up S 46 f2) := rfl
theorem ms47 : (mem ch (am_up S 47 f)).set 47 (.inl (0, 12, .inl f2)) = mem ch (am_up S 47 f2) := by
  show mem ch (am_up (am_up S 47 f) 47 f2) = _
  rw [am_up_up]
theorem mu47 : (mem ch S).set 47 (.inl (0, 12, .inl f2)) = mem ch (am_up S 47 f2) := rfl
theorem ms48 : (mem ch (am_up S 48 f)).set 48 (.inl (0, 168, .inl f2)) = mem ch (am_up S 48 f2) := by
  show mem ch (am_up (am_up S 48 f) 48 f2) = _
  rw [am_up_up]
theorem mu48 : (mem ch S).set 48 (.inl (0, 168, .inl f2)) = mem ch (am_up S 48 f2) := rfl
theorem ms49 : (mem ch (am_up S 49 f)).set 49 (.inl (0, 12, .inl f2)) = mem ch (am_up S 49 f2) := by
  show mem ch (am_up (am_up S 49 f) 49 f2) = _
  rw [am_up_up]
theorem mu49 : (mem ch S).set 49 (.inl (0, 12, .inl f2)) = mem ch (am_up S 49 f2) := rfl
theorem ms50 : (mem ch (am_up S 50 f)).set 50 (.inl (0, 12, .inl f2)) = mem ch (am_up S 50 f2) := by
  show mem ch (am_up (am_up S 50 f) 50 f2) = _
  rw [am_up_up]
theorem mu50 : (mem ch S).set 50 (.inl (0, 12, .inl f2)) = mem ch (am_up S 50 f2) := rfl
theorem ms42 : (mem ch (am_up S 42 f)).set 42 (.inl (0, 12, .inl f2)) = mem ch (am_up S 42 f2) := by
  show mem ch (am_up (am_up S 42 f) 42 f2) = _
  rw [am_up_up]
theorem mu42 : (mem ch S).set 42 (.inl (0, 12, .inl f2)) = mem ch (am_up S 42 f2) := rfl
end MSET
