/-! every row of every method of part 02, by evaluation -/
set_option maxRecDepth 100000 in
theorem am_ck0 : am_ckm 0 = true := by decide +kernel
set_option maxRecDepth 100000 in
theorem am_ck1 : am_ckm 1 = true := by decide +kernel
set_option maxRecDepth 100000 in
theorem am_ck2 : am_ckm 2 = true := by decide +kernel
set_option maxRecDepth 100000 in
theorem am_ck3 : am_ckm 3 = true := by decide +kernel
set_option maxRecDepth 100000 in
theorem am_ck4 : am_ckm 4 = true := by decide +kernel
set_option maxRecDepth 100000 in
theorem am_ck5 : am_ckm 5 = true := by decide +kernel
set_option maxRecDepth 100000 in
theorem am_ck6 : am_ckm 6 = true := by decide +kernel
set_option maxRecDepth 100000 in
theorem am_ck7 : am_ckm 7 = true := by decide +kernel
set_option maxRecDepth 100000 in
theorem am_ck8 : am_ckm 8 = true := by decide +kernel
set_option maxRecDepth 100000 in
theorem am_ck9 : am_ckm 9 = true := by decide +kernel
set_option maxRecDepth 100000 in
theorem am_ck10 : am_ckm 10 = true := by decide +kernel
set_option maxRecDepth 100000 in
theorem am_ck11 : am_ckm 11 = true := by decide +kernel
set_option maxRecDepth 100000 in
theorem am_ck12 : am_ckm 12 = true := by decide +kernel
set_option maxRecDepth 100000 in
theorem am_ck13 : am_ckm 13 = true := by decide +kernel
set_option maxRecDepth 100000 in
theorem am_ck14 : am_ckm 14 = true := by decide +kernel
set_option maxRecDepth 100000 in
theorem am_ck15 : am_ckm 15 = true := by decide +kernel
set_option maxRecDepth 100000 in
theorem am_ck16 : am_ckm 16 = true := by decide +kernel
set_option maxRecDepth 100000 in
theorem am_ck17 : am_ckm 17 = true := by decide +kernel
set_option maxRecDepth 100000 in
theorem am_ck18 : am_ckm 18 = true := by decide +kernel
set_option maxRecDepth 100000 in
theorem am_ck19 : am_ckm 19 = true := by decide +kernel
set_option maxRecDepth 100000 in
theorem am_ck20 : am_ckm 20 = true := by decide +kernel
set_option maxRecDepth 100000 in
theorem am_ck21 : am_ckm 21 = true := by decide +kernel
set_option maxRecDepth 100000 in
theorem am_ck22 : am_ckm 22 = true := by decide +kernel
set_option maxRecDepth 100000 in
theorem am_ck23 : am_ckm 23 = true := by decide +kernel
set_option maxRecDepth 100000 in
theorem am_ck24 : am_ckm 24 = true := by decide +kernel
set_option maxRecDepth 100000 in
theorem am_ck25 : am_ckm 25 = true := by decide +kernel
set_option maxRecDepth 100000 in
theorem am_ck26 : am_ckm 26 = true := by decide +kernel
set_option maxRecDepth 100000 in
theorem am_ck27 : am_ckm 27 = true := by decide +kernel
set_option maxRecDepth 100000 in
theorem am_ck28 : am_ckm 28 = true := by decide +kernel
set_option maxRecDepth 100000 in
theorem am_ck29 : am_ckm 29 = true := by decide +kernel
set_option maxRecDepth 100000 in
theorem am_ck30 : am_ckm 30 = true := by decide +kernel
set_option maxRecDepth 100000 in
theorem am_ck31 : am_ckm 31 = true := by decide +kernel
set_option maxRecDepth 100000 in
theorem am_ck32 : am_ckm 32 = true := by decide +kernel
set_option maxRecDepth 100000 in
theorem am_ck33 : am_ckm 33 = true := by decide +kernel
set_option maxRecDepth 100000 in
theorem am_ck34 : am_ckm 34 = true := by decide +kernel
set_option maxRecDepth 100000 in
theorem am_ck35 : am_ckm 35 = true := by decide +kernel
set_option maxRecDepth 100000 in
theorem am_ck36 : am_ckm 36 = true := by decide +kernel
set_option maxRecDepth 100000 in
theorem am_ck37 : am_ckm 37 = true := by decide +kernel
set_option maxRecDepth 100000 in
theorem am_ck38 : am_ckm 38 = true := by decide +kernel
set_option maxRecDepth 100000 in
theorem am_ck39 : am_ckm 39 = true := by decide +kernel
set_option maxRecDepth 100000 in
theorem am_ck40 : am_ckm 40 = true := by decide +kernel
set_option maxRecDepth 100000 in
theorem am_ck41 : am_ckm 41 = true := by decide +kernel
set_option maxRecDepth 100000 in
theorem am_ck42 : am_ckm 42 = true := by decide +kernel
set_option maxRecDepth 100000 in
theorem am_ck43 : am_ckm 43 = true := by decide +kernel
set_option maxRecDepth 100000 in
theorem am_ck44 : am_ckm 44 = true := by decide +kernel
set_option maxRecDepth 100000 in
theorem am_ck45 : am_ckm 45 = true := by decide +kernel
set_option maxRecDepth 100000 in
theorem am_ck46 : am_ckm 46 = true := by decide +kernel
set_option maxRecDepth 100000 in
theorem am_ck47 : am_ckm 47 = true := by decide +kernel
set_option maxRecDepth 100000 in
theorem am_ck48 : am_ckm 48 = true := by decide +kernel
set_option maxRecDepth 100000 in
theorem am_ck49 : am_ckm 49 = true := by decide +kernel
set_option maxRecDepth 100000 in
theorem am_ck50 : am_ckm 50 = true := by decide +kernel
set_option maxRecDepth 100000 in
theorem am_ck51 : am_ckm 51 = true := by decide +kernel
set_option maxRecDepth 100000 in
theorem am_ck52 : am_ckm 52 = true := by decide +kernel
set_option maxRecDepth 100000 in
theorem am_ck53 : am_ckm 53 = true := by decide +kernel
set_option maxRecDepth 100000 in
theorem am_ck54 : am_ckm 54 = true := by decide +kernel
set_option maxRecDepth 100000 in
theorem am_ck55 : am_ckm 55 = true := by decide +kernel
set_option maxRecDepth 100000 in
theorem am_ck56 : am_ckm 56 = true := by decide +kernel
set_option maxRecDepth 100000 in
theorem am_ck57 : am_ckm 57 = true := by decide +kernel
set_option maxRecDepth 100000 in
theorem am_ck58 : am_ckm 58 = true := by decide +kernel
set_option maxRecDepth 100000 in
theorem am_ck59 : am_ckm 59 = true := by decide +kernel
set_option maxRecDepth 100000 in
theorem am_ck60 : am_ckm 60 = true := by decide +kernel
set_option maxRecDepth 100000 in
theorem am_ck61 : am_ckm 61 = true := by decide +kernel
set_option maxRecDepth 100000 in
theorem am_ck62 : am_ckm 62 = true := by decide +kernel
set_option maxRecDepth 100000 in
theorem am_ck63 : am_ckm 63 = true := by decide +kernel
set_option maxRecDepth 100000 in
theorem am_ck64 : am_ckm 64 = true := by decide +kernel
set_option maxRecDepth 100000 in
theorem am_ck65 : am_ckm 65 = true := by decide +kernel
set_option maxRecDepth 100000 in
theorem am_ck66 : am_ckm 66 = true := by decide +kernel
set_option maxRecDepth 100000 in
theorem am_ck67 : am_ckm 67 = true := by decide +kernel
set_option maxRecDepth 100000 in
theorem am_ck68 : am_ckm 68 = true := by decide +kernel
set_option maxRecDepth 100000 in
theorem am_ck69 : am_ckm 69 = true := by decide +kernel
set_option maxRecDepth 100000 in
theorem am_ck70 : am_ckm 70 = true := by decide +kernel
set_option maxRecDepth 100000 in
theorem am_ck71 : am_ckm 71 = true := by decide +kernel
set_option maxRecDepth 100000 in
theorem am_ck72 : am_ckm 72 = true := by decide +kernel
set_option maxRecDepth 100000 in
theorem am_ck73 : am_ckm 73 = true := by decide +kernel
set_option maxRecDepth 100000 in
theorem am_ck74 : am_ckm 74 = true := by decide +kernel
set_option maxRecDepth 100000 in
theorem am_ck75 : am_ckm 75 = true := by decide +kernel
set_option maxRecDepth 100000 in
theorem am_ck76 : am_ckm 76 = true := by decide +kernel
set_option maxRecDepth 100000 in
theorem am_ck77 : am_ckm 77 = true := by decide +kernel
set_option maxRecDepth 100000 in
theorem am_ck78 : am_ckm 78 = true := by decide +kernel
set_option maxRecDepth 100000 in
theorem am_ck79 : am_ckm 79 = true := by decide +kernel
set_option maxRecDepth 100000 in
theorem am_ck80 : am_ckm 80 = true := by decide +kernel
set_option maxRecDepth 100000 in
theorem am_ck81 : am_ckm 81 = true := by decide +kernel
set_option maxRecDepth 100000 in
theorem am_ck82 : am_ckm 82 = true := by decide +kernel
set_option maxRecDepth 100000 in
theorem am_ck83 : am_ckm 83 = true := by decide +kernel
set_option maxRecDepth 100000 in
theorem am_ck84 : am_ckm 84 = true := by decide +kernel
set_option maxRecDepth 100000 in
theorem am_ck85 : am_ckm 85 = true := by decide +kernel
set_option maxRecDepth 100000 in
theorem am_ck86 : am_ckm 86 = true := by decide +kernel
set_option maxRecDepth 100000 in
theorem am_ck87 : am_ckm 87 = true := by decide +kernel
set_option maxRecDepth 100000 in
theorem am_ck88 : am_ckm 88 = true := by decide +kernel
set_option maxRecDepth 100000 in
theorem am_ck89 : am_ckm 89 = true := by decide +kernel
set_option maxRecDepth 100000 in
theorem am_ck90 : am_ckm 90 = true := by decide +kernel
set_option maxRecDepth 100000 in
theorem am_ck91 : am_ckm 91 = true := by decide +kernel
set_option maxRecDepth 100000 in
theorem am_ck92 : am_ckm 92 = true := by decide +kernel
set_option maxRecDepth 100000 in
theorem am_ck93 : am_ckm 93 = true := by decide +kernel
set_option maxRecDepth 100000 in
theorem am_ck94 : am_ckm 94 = true := by decide +kernel
set_option maxRecDepth 100000 in
theorem am_ck95 : am_ckm 95 = true := by decide +kernel
set_option maxRecDepth 100000 in
theorem am_ck96 : am_ckm 96 = true := by decide +kernel
set_option maxRecDepth 100000 in
theorem am_ck97 : am_ckm 97 = true := by decide +kernel
set_option maxRecDepth 100000 in
theorem am_ck98 : am_ckm 98 = true := by decide +kernel
set_option maxRecDepth 100000 in
theorem am_ck99 : am_ckm 99 = true := by decide +kernel
set_option maxRecDepth 100000 in
theorem am_ck100 : am_ckm 100 = true := by decide +kernel
set_option maxRecDepth 100000 in
theorem am_ck101 : am_ckm 101 = true := by decide +kernel
set_option maxRecDepth 100000 in
theorem am_ck102 : am_ckm 102 = true := by decide +kernel
set_option maxRecDepth 100000 in
theorem am_ck103 : am_ckm 103 = true := by decide +kernel
set_option maxRecDepth 100000 in
theorem am_ck104 : am_ckm 104 = true := by decide +kernel
set_option maxRecDepth 100000 in
theorem am_ck105 : am_ckm 105 = true := by decide +kernel
set_option maxRecDepth 100000 in
theorem am_ck106 : am_ckm 106 = true := by decide +kernel
set_option maxRecDepth 100000 in
theorem am_ck107 : am_ckm 107 = true := by decide +kernel
set_option maxRecDepth 100000 in
theorem am_ck108 : am_ckm 108 = true := by decide +kernel
set_option maxRecDepth 100000 in
theorem am_ck109 : am_ckm 109 = true := by decide +kernel
set_option maxRecDepth 100000 in
theorem am_ck110 : am_ckm 110 = true := by decide +kernel
set_option maxRecDepth 100000 in
theorem am_ck111 : am_ckm 111 = true := by decide +kernel
set_option maxRecDepth 100000 in
theorem am_ck112 : am_ckm 112 = true := by decide +kernel
set_option maxRecDepth 100000 in
theorem am_ck113 : am_ckm 113 = true := by decide +kernel
set_option maxRecDepth 100000 in
theorem am_ck114 : am_ckm 114 = true := by decide +kernel
set_option maxRecDepth 100000 in
theorem am_ck115 : am_ckm 115 = true := by decide +kernel
set_option maxRecDepth 100000 in
theorem am_ck116 : am_ckm 116 = true := by decide +kernel
set_option maxRecDepth 100000 in
theorem am_ck117 : am_ckm 117 = true := by decide +kernel
set_option maxRecDepth 100000 in
theorem am_ck118 : am_ckm 118 = true := by decide +kernel
set_option maxRecDepth 100000 in
theorem am_ck119 : am_ckm 119 = true := by decide +kernel
set_option maxRecDepth 100000 in
theorem am_ck120 : am_ckm 120 = true := by decide +kernel
set_option maxRecDepth 100000 in
theorem am_ck121 : am_ckm 121 = true := by decide +kernel
set_option maxRecDepth 100000 in
theorem am_ck122 : am_ckm 122 = true := by decide +kernel
set_option maxRecDepth 100000 in
theorem am_ck123 : am_ckm 123 = true := by decide +kernel
set_option maxRecDepth 100000 in
theorem am_ck124 : am_ckm 124 = true := by decide +kernel
set_option maxRecDepth 100000 in
theorem am_ck125 : am_ckm 125 = true := by decide +kernel
set_option maxRecDepth 100000 in
theorem am_ck126 : am_ckm 126 = true := by decide +kernel
set_option maxRecDepth 100000 in
theorem am_ck127 : am_ckm 127 = true := by decide +kernel
set_option maxRecDepth 100000 in
theorem am_ck128 : am_ckm 128 = true := by decide +kernel
set_option maxRecDepth 100000 in
theorem am_ck129 : am_ckm 129 = true := by decide +kernel
set_option maxRecDepth 100000 in
theorem am_ck130 : am_ckm 130 = true := by decide +kernel
set_option maxRecDepth 100000 in
theorem am_ck131 : am_ckm 131 = true := by decide +kernel
set_option maxRecDepth 100000 in
theorem am_ck132 : am_ckm 132 = true := by decide +kernel
set_option maxRecDepth 100000 in
theorem am_ck133 : am_ckm 133 = true := by decide +kernel
set_option maxRecDepth 100000 in
theorem am_ck134 : am_ckm 134 = true := by decide +kernel
set_option maxRecDepth 100000 in
theorem am_ck135 : am_ckm 135 = true := by decide +kernel
set_option maxRecDepth 100000 in
theorem am_ck136 : am_ckm 136 = true := by decide +kernel
set_option maxRecDepth 100000 in
theorem am_ck137 : am_ckm 137 = true := by decide +kernel
set_option maxRecDepth 100000 in
theorem am_ck138 : am_ckm 138 = true := by decide +kernel
set_option maxRecDepth 100000 in
theorem am_ck139 : am_ckm 139 = true := by decide +kernel
set_option maxRecDepth 100000 in
theorem am_ck140 : am_ckm 140 = true := by decide +kernel
set_option maxRecDepth 100000 in
theorem am_ck141 : am_ckm 141 = true := by decide +kernel
set_option maxRecDepth 100000 in
theorem am_ck142 : am_ckm 142 = true := by decide +kernel
set_option maxRecDepth 100000 in
theorem am_ck143 : am_ckm 143 = true := by decide +kernel
set_option maxRecDepth 100000 in
theorem am_ck144 : am_ckm 144 = true := by decide +kernel
set_option maxRecDepth 100000 in
theorem am_ck145 : am_ckm 145 = true := by decide +kernel
theorem am_cks : ∀ m : Nat, m < 146 → am_ckm m = true
  | 0, _ => am_ck0
  | 1, _ => am_ck1
  | 2, _ => am_ck2
  | 3, _ => am_ck3
  | 4, _ => am_ck4
  | 5, _ => am_ck5
  | 6, _ => am_ck6
  | 7, _ => am_ck7
  | 8, _ => am_ck8
  | 9, _ => am_ck9
  | 10, _ => am_ck10
  | 11, _ => am_ck11
  | 12, _ => am_ck12
  | 13, _ => am_ck13
  | 14, _ => am_ck14
  | 15, _ => am_ck15
  | 16, _ => am_ck16
  | 17, _ => am_ck17
  | 18, _ => am_ck18
  | 19, _ => am_ck19
  | 20, _ => am_ck20
  | 21, _ => am_ck21
  | 22, _ => am_ck22
  | 23, _ => am_ck23
  | 24, _ => am_ck24
  | 25, _ => am_ck25
  | 26, _ => am_ck26
  | 27, _ => am_ck27
  | 28, _ => am_ck28
  | 29, _ => am_ck29
  | 30, _ => am_ck30
  | 31, _ => am_ck31
  | 32, _ => am_ck32
  | 33, _ => am_ck33
  | 34, _ => am_ck34
  | 35, _ => am_ck35
  | 36, _ => am_ck36
  | 37, _ => am_ck37
  | 38, _ => am_ck38
  | 39, _ => am_ck39
  | 40, _ => am_ck40
  | 41, _ => am_ck41
  | 42, _ => am_ck42
  | 43, _ => am_ck43
  | 44, _ => am_ck44
  | 45, _ => am_ck45
  | 46, _ => am_ck46
  | 47, _ => am_ck47
  | 48, _ => am_ck48
  | 49, _ => am_ck49
  | 50, _ => am_ck50
  | 51, _ => am_ck51
  | 52, _ => am_ck52
  | 53, _ => am_ck53
  | 54, _ => am_ck54
  | 55, _ => am_ck55
  | 56, _ => am_ck56
  | 57, _ => am_ck57
  | 58, _ => am_ck58
  | 59, _ => am_ck59
  | 60, _ => am_ck60
  | 61, _ => am_ck61
  | 62, _ => am_ck62
  | 63, _ => am_ck63
  | 64, _ => am_ck64
  | 65, _ => am_ck65
  | 66, _ => am_ck66
  | 67, _ => am_ck67
  | 68, _ => am_ck68
  | 69, _ => am_ck69
  | 70, _ => am_ck70
  | 71, _ => am_ck71
  | 72, _ => am_ck72
  | 73, _ => am_ck73
  | 74, _ => am_ck74
  | 75, _ => am_ck75
  | 76, _ => am_ck76
  | 77, _ => am_ck77
  | 78, _ => am_ck78
  | 79, _ => am_ck79
  | 80, _ => am_ck80
  | 81, _ => am_ck81
  | 82, _ => am_ck82
  | 83, _ => am_ck83
  | 84, _ => am_ck84
  | 85, _ => am_ck85
  | 86, _ => am_ck86
  | 87, _ => am_ck87
  | 88, _ => am_ck88
  | 89, _ => am_ck89
  | 90, _ => am_ck90
  | 91, _ => am_ck91
  | 92, _ => am_ck92
  | 93, _ => am_ck93
  | 94, _ => am_ck94
  | 95, _ => am_ck95
  | 96, _ => am_ck96
  | 97, _ => am_ck97
  | 98, _ => am_ck98
  | 99, _ => am_ck99
  | 100, _ => am_ck100
  | 101, _ => am_ck101
  | 102, _ => am_ck102
  | 103, _ => am_ck103
  | 104, _ => am_ck104
  | 105, _ => am_ck105
  | 106, _ => am_ck106
  | 107, _ => am_ck107
  | 108, _ => am_ck108
  | 109, _ => am_ck109
  | 110, _ => am_ck110
  | 111, _ => am_ck111
  | 112, _ => am_ck112
  | 113, _ => am_ck113
  | 114, _ => am_ck114
  | 115, _ => am_ck115
  | 116, _ => am_ck116
  | 117, _ => am_ck117
  | 118, _ => am_ck118
  | 119, _ => am_ck119
  | 120, _ => am_ck120
  | 121, _ => am_ck121
  | 122, _ => am_ck122
  | 123, _ => am_ck123
  | 124, _ => am_ck124
  | 125, _ => am_ck125
  | 126, _ => am_ck126
  | 127, _ => am_ck127
  | 128, _ => am_ck128
  | 129, _ => am_ck129
  | 130, _ => am_ck130
  | 131, _ => am_ck131
  | 132, _ => am_ck132
  | 133, _ => am_ck133
  | 134, _ => am_ck134
  | 135, _ => am_ck135
  | 136, _ => am_ck136
  | 137, _ => am_ck137
  | 138, _ => am_ck138
  | 139, _ => am_ck139
  | 140, _ => am_ck140
  | 141, _ => am_ck141
  | 142, _ => am_ck142
  | 143, _ => am_ck143
  | 144, _ => am_ck144
  | 145, _ => am_ck145
  | n + 146, h => absurd h (by omega)
theorem am_cko {m i : Nat} {o : am_O} (h : am_op m i = some o) : am_ck m i o = true := by
  by_cases hm : m < 146
  · have := am_ckl_at (am_codes.getD m []) 0 i o (am_cks m hm) h
    rwa [Nat.zero_add] at this
  · have e : am_codes.getD m [] = [] := by
      rw [List.getD_eq_getElem?_getD, List.getElem?_eq_none (by show 146 ≤ m; omega)]
      rfl
    unfold am_op at h
    rw [e] at h
    simp at h
