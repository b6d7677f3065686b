theorem law_walk (g : am_G) (hL : am_sl g ≤ 2048) : AW g 9 600000 7302250 0 0 (am_L0 0 [.retAddr 0]) [] [] (fun r _ => r = some (.int 1)) := by
  sorry
