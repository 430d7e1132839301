/-! FROM THE MACHINE'S STATES TO ABSTRACT ONES -/
theorem jm_ckL_at (m : Nat) : ∀ (l : List (Instr × Nat × Int)) (j i : Nat) (e : Instr × Nat × Int), jm_ckL m j l = true → jm_nth l i = some e → jm_ck m (j + i) e = true
  | [], _, _, _, _, h => nomatch h
  | a :: l, j, 0, e, h, hi => by
    have h1 : (jm_ck m j a && jm_ckL m (j + 1) l) = true := h
    rw [Bool.and_eq_true] at h1
    have h2 : a = e := Option.some.inj hi
    rw [← h2]
    exact h1.1
  | a :: l, j, i + 1, e, h, hi => by
    have h1 : (jm_ck m j a && jm_ckL m (j + 1) l) = true := h
    rw [Bool.and_eq_true] at h1
    have := jm_ckL_at m l (j + 1) i e h1.2 hi
    rw [show j + (i + 1) = j + 1 + i by omega]
    exact this
theorem jm_ckL_app (m : Nat) : ∀ (a b : List (Instr × Nat × Int)) (j : Nat), jm_ckL m j a = true → jm_ckL m (j + a.length) b = true → jm_ckL m j (a ++ b) = true
  | [], b, j, _, h => h
  | e :: a, b, j, h, hb => by
    have h1 : (jm_ck m j e && jm_ckL m (j + 1) a) = true := h
    rw [Bool.and_eq_true] at h1
    show (jm_ck m j e && jm_ckL m (j + 1) (a ++ b)) = true
    rw [Bool.and_eq_true]
    refine ⟨h1.1, jm_ckL_app m a b (j + 1) h1.2 ?_⟩
    rw [show j + 1 + a.length = j + (e :: a).length by simp; omega]
    exact hb
set_option maxRecDepth 100000 in
theorem jm_ckm216 : jm_ckL 216 0 jm_cd216 = true := by
  show jm_ckL 216 0 (jm_cd216_0 ++ jm_cd216_1 ++ jm_cd216_2 ++ jm_cd216_3 ++ jm_cd216_4 ++ jm_cd216_5 ++ jm_cd216_6 ++ jm_cd216_7 ++ jm_cd216_8) = true
  exact jm_ckL_app _ _ _ _ (jm_ckL_app _ _ _ _ (jm_ckL_app _ _ _ _ (jm_ckL_app _ _ _ _ (jm_ckL_app _ _ _ _ (jm_ckL_app _ _ _ _ (jm_ckL_app _ _ _ _ (jm_ckL_app _ _ _ _ jm_ckm216_0 jm_ckm216_1) jm_ckm216_2) jm_ckm216_3) jm_ckm216_4) jm_ckm216_5) jm_ckm216_6) jm_ckm216_7) jm_ckm216_8
theorem jm_ck_of {m : Nat} {l : List (Instr × Nat × Int)} (h : jm_nth jm_cdT m = some l) : jm_ckL m 0 l = true := by
  match m, h with
  | 0, h => exact Option.some.inj (show some jm_cd0 = some l from h) ▸ jm_ckm0
  | 1, h => exact Option.some.inj (show some jm_cd1 = some l from h) ▸ jm_ckm1
  | 2, h => exact Option.some.inj (show some jm_cd2 = some l from h) ▸ jm_ckm2
  | 3, h => exact Option.some.inj (show some jm_cd3 = some l from h) ▸ jm_ckm3
  | 4, h => exact Option.some.inj (show some jm_cd4 = some l from h) ▸ jm_ckm4
  | 5, h => exact Option.some.inj (show some jm_cd5 = some l from h) ▸ jm_ckm5
  | 6, h => exact Option.some.inj (show some jm_cd6 = some l from h) ▸ jm_ckm6
  | 7, h => exact Option.some.inj (show some jm_cd7 = some l from h) ▸ jm_ckm7
  | 8, h => exact Option.some.inj (show some jm_cd8 = some l from h) ▸ jm_ckm8
  | 9, h => exact Option.some.inj (show some jm_cd9 = some l from h) ▸ jm_ckm9
  | 10, h => exact Option.some.inj (show some jm_cd10 = some l from h) ▸ jm_ckm10
  | 11, h => exact Option.some.inj (show some jm_cd11 = some l from h) ▸ jm_ckm11
  | 12, h => exact Option.some.inj (show some jm_cd12 = some l from h) ▸ jm_ckm12
  | 13, h => exact Option.some.inj (show some jm_cd13 = some l from h) ▸ jm_ckm13
  | 14, h => exact Option.some.inj (show some jm_cd14 = some l from h) ▸ jm_ckm14
  | 15, h => exact Option.some.inj (show some jm_cd15 = some l from h) ▸ jm_ckm15
  | 16, h => exact Option.some.inj (show some jm_cd16 = some l from h) ▸ jm_ckm16
  | 17, h => exact Option.some.inj (show some jm_cd17 = some l from h) ▸ jm_ckm17
  | 18, h => exact Option.some.inj (show some jm_cd18 = some l from h) ▸ jm_ckm18
  | 19, h => exact Option.some.inj (show some jm_cd19 = some l from h) ▸ jm_ckm19
  | 20, h => exact Option.some.inj (show some jm_cd20 = some l from h) ▸ jm_ckm20
  | 21, h => exact Option.some.inj (show some jm_cd21 = some l from h) ▸ jm_ckm21
  | 22, h => exact Option.some.inj (show some jm_cd22 = some l from h) ▸ jm_ckm22
  | 23, h => exact Option.some.inj (show some jm_cd23 = some l from h) ▸ jm_ckm23
  | 24, h => exact Option.some.inj (show some jm_cd24 = some l from h) ▸ jm_ckm24
  | 25, h => exact Option.some.inj (show some jm_cd25 = some l from h) ▸ jm_ckm25
  | 26, h => exact Option.some.inj (show some jm_cd26 = some l from h) ▸ jm_ckm26
  | 27, h => exact Option.some.inj (show some jm_cd27 = some l from h) ▸ jm_ckm27
  | 28, h => exact Option.some.inj (show some jm_cd28 = some l from h) ▸ jm_ckm28
  | 29, h => exact Option.some.inj (show some jm_cd29 = some l from h) ▸ jm_ckm29
  | 30, h => exact Option.some.inj (show some jm_cd30 = some l from h) ▸ jm_ckm30
  | 31, h => exact Option.some.inj (show some jm_cd31 = some l from h) ▸ jm_ckm31
  | 32, h => exact Option.some.inj (show some jm_cd32 = some l from h) ▸ jm_ckm32
  | 33, h => exact Option.some.inj (show some jm_cd33 = some l from h) ▸ jm_ckm33
  | 34, h => exact Option.some.inj (show some jm_cd34 = some l from h) ▸ jm_ckm34
  | 35, h => exact Option.some.inj (show some jm_cd35 = some l from h) ▸ jm_ckm35
  | 36, h => exact Option.some.inj (show some jm_cd36 = some l from h) ▸ jm_ckm36
  | 37, h => exact Option.some.inj (show some jm_cd37 = some l from h) ▸ jm_ckm37
  | 38, h => exact Option.some.inj (show some jm_cd38 = some l from h) ▸ jm_ckm38
  | 39, h => exact Option.some.inj (show some jm_cd39 = some l from h) ▸ jm_ckm39
  | 40, h => exact Option.some.inj (show some jm_cd40 = some l from h) ▸ jm_ckm40
  | 41, h => exact Option.some.inj (show some jm_cd41 = some l from h) ▸ jm_ckm41
  | 42, h => exact Option.some.inj (show some jm_cd42 = some l from h) ▸ jm_ckm42
  | 43, h => exact Option.some.inj (show some jm_cd43 = some l from h) ▸ jm_ckm43
  | 44, h => exact Option.some.inj (show some jm_cd44 = some l from h) ▸ jm_ckm44
  | 45, h => exact Option.some.inj (show some jm_cd45 = some l from h) ▸ jm_ckm45
  | 46, h => exact Option.some.inj (show some jm_cd46 = some l from h) ▸ jm_ckm46
  | 47, h => exact Option.some.inj (show some jm_cd47 = some l from h) ▸ jm_ckm47
  | 48, h => exact Option.some.inj (show some jm_cd48 = some l from h) ▸ jm_ckm48
  | 49, h => exact Option.some.inj (show some jm_cd49 = some l from h) ▸ jm_ckm49
  | 50, h => exact Option.some.inj (show some jm_cd50 = some l from h) ▸ jm_ckm50
  | 51, h => exact Option.some.inj (show some jm_cd51 = some l from h) ▸ jm_ckm51
  | 52, h => exact Option.some.inj (show some jm_cd52 = some l from h) ▸ jm_ckm52
  | 53, h => exact Option.some.inj (show some jm_cd53 = some l from h) ▸ jm_ckm53
  | 54, h => exact Option.some.inj (show some jm_cd54 = some l from h) ▸ jm_ckm54
  | 55, h => exact Option.some.inj (show some jm_cd55 = some l from h) ▸ jm_ckm55
  | 56, h => exact Option.some.inj (show some jm_cd56 = some l from h) ▸ jm_ckm56
  | 57, h => exact Option.some.inj (show some jm_cd57 = some l from h) ▸ jm_ckm57
  | 58, h => exact Option.some.inj (show some jm_cd58 = some l from h) ▸ jm_ckm58
  | 59, h => exact Option.some.inj (show some jm_cd59 = some l from h) ▸ jm_ckm59
  | 60, h => exact Option.some.inj (show some jm_cd60 = some l from h) ▸ jm_ckm60
  | 61, h => exact Option.some.inj (show some jm_cd61 = some l from h) ▸ jm_ckm61
  | 62, h => exact Option.some.inj (show some jm_cd62 = some l from h) ▸ jm_ckm62
  | 63, h => exact Option.some.inj (show some jm_cd63 = some l from h) ▸ jm_ckm63
  | 64, h => exact Option.some.inj (show some jm_cd64 = some l from h) ▸ jm_ckm64
  | 65, h => exact Option.some.inj (show some jm_cd65 = some l from h) ▸ jm_ckm65
  | 66, h => exact Option.some.inj (show some jm_cd66 = some l from h) ▸ jm_ckm66
  | 67, h => exact Option.some.inj (show some jm_cd67 = some l from h) ▸ jm_ckm67
  | 68, h => exact Option.some.inj (show some jm_cd68 = some l from h) ▸ jm_ckm68
  | 69, h => exact Option.some.inj (show some jm_cd69 = some l from h) ▸ jm_ckm69
  | 70, h => exact Option.some.inj (show some jm_cd70 = some l from h) ▸ jm_ckm70
  | 71, h => exact Option.some.inj (show some jm_cd71 = some l from h) ▸ jm_ckm71
  | 72, h => exact Option.some.inj (show some jm_cd72 = some l from h) ▸ jm_ckm72
  | 73, h => exact Option.some.inj (show some jm_cd73 = some l from h) ▸ jm_ckm73
  | 74, h => exact Option.some.inj (show some jm_cd74 = some l from h) ▸ jm_ckm74
  | 75, h => exact Option.some.inj (show some jm_cd75 = some l from h) ▸ jm_ckm75
  | 76, h => exact Option.some.inj (show some jm_cd76 = some l from h) ▸ jm_ckm76
  | 77, h => exact Option.some.inj (show some jm_cd77 = some l from h) ▸ jm_ckm77
  | 78, h => exact Option.some.inj (show some jm_cd78 = some l from h) ▸ jm_ckm78
  | 79, h => exact Option.some.inj (show some jm_cd79 = some l from h) ▸ jm_ckm79
  | 80, h => exact Option.some.inj (show some jm_cd80 = some l from h) ▸ jm_ckm80
  | 81, h => exact Option.some.inj (show some jm_cd81 = some l from h) ▸ jm_ckm81
  | 82, h => exact Option.some.inj (show some jm_cd82 = some l from h) ▸ jm_ckm82
  | 83, h => exact Option.some.inj (show some jm_cd83 = some l from h) ▸ jm_ckm83
  | 84, h => exact Option.some.inj (show some jm_cd84 = some l from h) ▸ jm_ckm84
  | 85, h => exact Option.some.inj (show some jm_cd85 = some l from h) ▸ jm_ckm85
  | 86, h => exact Option.some.inj (show some jm_cd86 = some l from h) ▸ jm_ckm86
  | 87, h => exact Option.some.inj (show some jm_cd87 = some l from h) ▸ jm_ckm87
  | 88, h => exact Option.some.inj (show some jm_cd88 = some l from h) ▸ jm_ckm88
  | 89, h => exact Option.some.inj (show some jm_cd89 = some l from h) ▸ jm_ckm89
  | 90, h => exact Option.some.inj (show some jm_cd90 = some l from h) ▸ jm_ckm90
  | 91, h => exact Option.some.inj (show some jm_cd91 = some l from h) ▸ jm_ckm91
  | 92, h => exact Option.some.inj (show some jm_cd92 = some l from h) ▸ jm_ckm92
  | 93, h => exact Option.some.inj (show some jm_cd93 = some l from h) ▸ jm_ckm93
  | 94, h => exact Option.some.inj (show some jm_cd94 = some l from h) ▸ jm_ckm94
  | 95, h => exact Option.some.inj (show some jm_cd95 = some l from h) ▸ jm_ckm95
  | 96, h => exact Option.some.inj (show some jm_cd96 = some l from h) ▸ jm_ckm96
  | 97, h => exact Option.some.inj (show some jm_cd97 = some l from h) ▸ jm_ckm97
  | 98, h => exact Option.some.inj (show some jm_cd98 = some l from h) ▸ jm_ckm98
  | 99, h => exact Option.some.inj (show some jm_cd99 = some l from h) ▸ jm_ckm99
  | 100, h => exact Option.some.inj (show some jm_cd100 = some l from h) ▸ jm_ckm100
  | 101, h => exact Option.some.inj (show some jm_cd101 = some l from h) ▸ jm_ckm101
  | 102, h => exact Option.some.inj (show some jm_cd102 = some l from h) ▸ jm_ckm102
  | 103, h => exact Option.some.inj (show some jm_cd103 = some l from h) ▸ jm_ckm103
  | 104, h => exact Option.some.inj (show some jm_cd104 = some l from h) ▸ jm_ckm104
  | 105, h => exact Option.some.inj (show some jm_cd105 = some l from h) ▸ jm_ckm105
  | 106, h => exact Option.some.inj (show some jm_cd106 = some l from h) ▸ jm_ckm106
  | 107, h => exact Option.some.inj (show some jm_cd107 = some l from h) ▸ jm_ckm107
  | 108, h => exact Option.some.inj (show some jm_cd108 = some l from h) ▸ jm_ckm108
  | 109, h => exact Option.some.inj (show some jm_cd109 = some l from h) ▸ jm_ckm109
  | 110, h => exact Option.some.inj (show some jm_cd110 = some l from h) ▸ jm_ckm110
  | 111, h => exact Option.some.inj (show some jm_cd111 = some l from h) ▸ jm_ckm111
  | 112, h => exact Option.some.inj (show some jm_cd112 = some l from h) ▸ jm_ckm112
  | 113, h => exact Option.some.inj (show some jm_cd113 = some l from h) ▸ jm_ckm113
  | 114, h => exact Option.some.inj (show some jm_cd114 = some l from h) ▸ jm_ckm114
  | 115, h => exact Option.some.inj (show some jm_cd115 = some l from h) ▸ jm_ckm115
  | 116, h => exact Option.some.inj (show some jm_cd116 = some l from h) ▸ jm_ckm116
  | 117, h => exact Option.some.inj (show some jm_cd117 = some l from h) ▸ jm_ckm117
  | 118, h => exact Option.some.inj (show some jm_cd118 = some l from h) ▸ jm_ckm118
  | 119, h => exact Option.some.inj (show some jm_cd119 = some l from h) ▸ jm_ckm119
  | 120, h => exact Option.some.inj (show some jm_cd120 = some l from h) ▸ jm_ckm120
  | 121, h => exact Option.some.inj (show some jm_cd121 = some l from h) ▸ jm_ckm121
  | 122, h => exact Option.some.inj (show some jm_cd122 = some l from h) ▸ jm_ckm122
  | 123, h => exact Option.some.inj (show some jm_cd123 = some l from h) ▸ jm_ckm123
  | 124, h => exact Option.some.inj (show some jm_cd124 = some l from h) ▸ jm_ckm124
  | 125, h => exact Option.some.inj (show some jm_cd125 = some l from h) ▸ jm_ckm125
  | 126, h => exact Option.some.inj (show some jm_cd126 = some l from h) ▸ jm_ckm126
  | 127, h => exact Option.some.inj (show some jm_cd127 = some l from h) ▸ jm_ckm127
  | 128, h => exact Option.some.inj (show some jm_cd128 = some l from h) ▸ jm_ckm128
  | 129, h => exact Option.some.inj (show some jm_cd129 = some l from h) ▸ jm_ckm129
  | 130, h => exact Option.some.inj (show some jm_cd130 = some l from h) ▸ jm_ckm130
  | 131, h => exact Option.some.inj (show some jm_cd131 = some l from h) ▸ jm_ckm131
  | 132, h => exact Option.some.inj (show some jm_cd132 = some l from h) ▸ jm_ckm132
  | 133, h => exact Option.some.inj (show some jm_cd133 = some l from h) ▸ jm_ckm133
  | 134, h => exact Option.some.inj (show some jm_cd134 = some l from h) ▸ jm_ckm134
  | 135, h => exact Option.some.inj (show some jm_cd135 = some l from h) ▸ jm_ckm135
  | 136, h => exact Option.some.inj (show some jm_cd136 = some l from h) ▸ jm_ckm136
  | 137, h => exact Option.some.inj (show some jm_cd137 = some l from h) ▸ jm_ckm137
  | 138, h => exact Option.some.inj (show some jm_cd138 = some l from h) ▸ jm_ckm138
  | 139, h => exact Option.some.inj (show some jm_cd139 = some l from h) ▸ jm_ckm139
  | 140, h => exact Option.some.inj (show some jm_cd140 = some l from h) ▸ jm_ckm140
  | 141, h => exact Option.some.inj (show some jm_cd141 = some l from h) ▸ jm_ckm141
  | 142, h => exact Option.some.inj (show some jm_cd142 = some l from h) ▸ jm_ckm142
  | 143, h => exact Option.some.inj (show some jm_cd143 = some l from h) ▸ jm_ckm143
  | 144, h => exact Option.some.inj (show some jm_cd144 = some l from h) ▸ jm_ckm144
  | 145, h => exact Option.some.inj (show some jm_cd145 = some l from h) ▸ jm_ckm145
  | 146, h => exact Option.some.inj (show some jm_cd146 = some l from h) ▸ jm_ckm146
  | 147, h => exact Option.some.inj (show some jm_cd147 = some l from h) ▸ jm_ckm147
  | 148, h => exact Option.some.inj (show some jm_cd148 = some l from h) ▸ jm_ckm148
  | 149, h => exact Option.some.inj (show some jm_cd149 = some l from h) ▸ jm_ckm149
  | 150, h => exact Option.some.inj (show some jm_cd150 = some l from h) ▸ jm_ckm150
  | 151, h => exact Option.some.inj (show some jm_cd151 = some l from h) ▸ jm_ckm151
  | 152, h => exact Option.some.inj (show some jm_cd152 = some l from h) ▸ jm_ckm152
  | 153, h => exact Option.some.inj (show some jm_cd153 = some l from h) ▸ jm_ckm153
  | 154, h => exact Option.some.inj (show some jm_cd154 = some l from h) ▸ jm_ckm154
  | 155, h => exact Option.some.inj (show some jm_cd155 = some l from h) ▸ jm_ckm155
  | 156, h => exact Option.some.inj (show some jm_cd156 = some l from h) ▸ jm_ckm156
  | 157, h => exact Option.some.inj (show some jm_cd157 = some l from h) ▸ jm_ckm157
  | 158, h => exact Option.some.inj (show some jm_cd158 = some l from h) ▸ jm_ckm158
  | 159, h => exact Option.some.inj (show some jm_cd159 = some l from h) ▸ jm_ckm159
  | 160, h => exact Option.some.inj (show some jm_cd160 = some l from h) ▸ jm_ckm160
  | 161, h => exact Option.some.inj (show some jm_cd161 = some l from h) ▸ jm_ckm161
  | 162, h => exact Option.some.inj (show some jm_cd162 = some l from h) ▸ jm_ckm162
  | 163, h => exact Option.some.inj (show some jm_cd163 = some l from h) ▸ jm_ckm163
  | 164, h => exact Option.some.inj (show some jm_cd164 = some l from h) ▸ jm_ckm164
  | 165, h => exact Option.some.inj (show some jm_cd165 = some l from h) ▸ jm_ckm165
  | 166, h => exact Option.some.inj (show some jm_cd166 = some l from h) ▸ jm_ckm166
  | 167, h => exact Option.some.inj (show some jm_cd167 = some l from h) ▸ jm_ckm167
  | 168, h => exact Option.some.inj (show some jm_cd168 = some l from h) ▸ jm_ckm168
  | 169, h => exact Option.some.inj (show some jm_cd169 = some l from h) ▸ jm_ckm169
  | 170, h => exact Option.some.inj (show some jm_cd170 = some l from h) ▸ jm_ckm170
  | 171, h => exact Option.some.inj (show some jm_cd171 = some l from h) ▸ jm_ckm171
  | 172, h => exact Option.some.inj (show some jm_cd172 = some l from h) ▸ jm_ckm172
  | 173, h => exact Option.some.inj (show some jm_cd173 = some l from h) ▸ jm_ckm173
  | 174, h => exact Option.some.inj (show some jm_cd174 = some l from h) ▸ jm_ckm174
  | 175, h => exact Option.some.inj (show some jm_cd175 = some l from h) ▸ jm_ckm175
  | 176, h => exact Option.some.inj (show some jm_cd176 = some l from h) ▸ jm_ckm176
  | 177, h => exact Option.some.inj (show some jm_cd177 = some l from h) ▸ jm_ckm177
  | 178, h => exact Option.some.inj (show some jm_cd178 = some l from h) ▸ jm_ckm178
  | 179, h => exact Option.some.inj (show some jm_cd179 = some l from h) ▸ jm_ckm179
  | 180, h => exact Option.some.inj (show some jm_cd180 = some l from h) ▸ jm_ckm180
  | 181, h => exact Option.some.inj (show some jm_cd181 = some l from h) ▸ jm_ckm181
  | 182, h => exact Option.some.inj (show some jm_cd182 = some l from h) ▸ jm_ckm182
  | 183, h => exact Option.some.inj (show some jm_cd183 = some l from h) ▸ jm_ckm183
  | 184, h => exact Option.some.inj (show some jm_cd184 = some l from h) ▸ jm_ckm184
  | 185, h => exact Option.some.inj (show some jm_cd185 = some l from h) ▸ jm_ckm185
  | 186, h => exact Option.some.inj (show some jm_cd186 = some l from h) ▸ jm_ckm186
  | 187, h => exact Option.some.inj (show some jm_cd187 = some l from h) ▸ jm_ckm187
  | 188, h => exact Option.some.inj (show some jm_cd188 = some l from h) ▸ jm_ckm188
  | 189, h => exact Option.some.inj (show some jm_cd189 = some l from h) ▸ jm_ckm189
  | 190, h => exact Option.some.inj (show some jm_cd190 = some l from h) ▸ jm_ckm190
  | 191, h => exact Option.some.inj (show some jm_cd191 = some l from h) ▸ jm_ckm191
  | 192, h => exact Option.some.inj (show some jm_cd192 = some l from h) ▸ jm_ckm192
  | 193, h => exact Option.some.inj (show some jm_cd193 = some l from h) ▸ jm_ckm193
  | 194, h => exact Option.some.inj (show some jm_cd194 = some l from h) ▸ jm_ckm194
  | 195, h => exact Option.some.inj (show some jm_cd195 = some l from h) ▸ jm_ckm195
  | 196, h => exact Option.some.inj (show some jm_cd196 = some l from h) ▸ jm_ckm196
  | 197, h => exact Option.some.inj (show some jm_cd197 = some l from h) ▸ jm_ckm197
  | 198, h => exact Option.some.inj (show some jm_cd198 = some l from h) ▸ jm_ckm198
  | 199, h => exact Option.some.inj (show some jm_cd199 = some l from h) ▸ jm_ckm199
  | 200, h => exact Option.some.inj (show some jm_cd200 = some l from h) ▸ jm_ckm200
  | 201, h => exact Option.some.inj (show some jm_cd201 = some l from h) ▸ jm_ckm201
  | 202, h => exact Option.some.inj (show some jm_cd202 = some l from h) ▸ jm_ckm202
  | 203, h => exact Option.some.inj (show some jm_cd203 = some l from h) ▸ jm_ckm203
  | 204, h => exact Option.some.inj (show some jm_cd204 = some l from h) ▸ jm_ckm204
  | 205, h => exact Option.some.inj (show some jm_cd205 = some l from h) ▸ jm_ckm205
  | 206, h => exact Option.some.inj (show some jm_cd206 = some l from h) ▸ jm_ckm206
  | 207, h => exact Option.some.inj (show some jm_cd207 = some l from h) ▸ jm_ckm207
  | 208, h => exact Option.some.inj (show some jm_cd208 = some l from h) ▸ jm_ckm208
  | 209, h => exact Option.some.inj (show some jm_cd209 = some l from h) ▸ jm_ckm209
  | 210, h => exact Option.some.inj (show some jm_cd210 = some l from h) ▸ jm_ckm210
  | 211, h => exact Option.some.inj (show some jm_cd211 = some l from h) ▸ jm_ckm211
  | 212, h => exact Option.some.inj (show some jm_cd212 = some l from h) ▸ jm_ckm212
  | 213, h => exact Option.some.inj (show some jm_cd213 = some l from h) ▸ jm_ckm213
  | 214, h => exact Option.some.inj (show some jm_cd214 = some l from h) ▸ jm_ckm214
  | 215, h => exact Option.some.inj (show some jm_cd215 = some l from h) ▸ jm_ckm215
  | 216, h => exact Option.some.inj (show some jm_cd216 = some l from h) ▸ jm_ckm216
  | m + 217, h => exact nomatch (show (none : Option (List (Instr × Nat × Int))) = some l from h)
theorem jm_ck_at {m k : Nat} {e : Instr × Nat × Int} (h : jm_rc m k = some e) : jm_ck m k e = true := by
  unfold jm_rc at h
  cases hl : jm_nth jm_cdT m with
  | none => rw [hl] at h; cases h
  | some l =>
    rw [hl] at h
    have := jm_ckL_at m l 0 k e (jm_ck_of hl) h
    rw [Nat.zero_add] at this
    exact this
theorem jm_dec {m k : Nat} {e : Instr × Nat × Int} (h : jm_rc m k = some e) (hn : e.1 ≠ .nop) : decode (jm_b m) (jm_bp m k) = .ok (e.1, jm_len e) ∧ jm_ck1 m k e = true ∧ jm_ck2 m e = true := by
  have h1 := jm_ck_at h
  unfold jm_ck at h1
  split at h1
  · rename_i h2
    exact absurd h2 hn
  · rw [Bool.and_eq_true, Bool.and_eq_true] at h1
    exact ⟨of_decide_eq_true h1.1, h1.2.1, h1.2.2⟩
theorem jm_mc_ok {m : Nat} (h : m < 216) : Cond.code (jm_y m) (jm_b m) (jm_mi m).2.2.2.1 (jm_r m) ∈ jm_g := by
  match m, h with
  | 0, _ => exact jm_in_g 744 jm_mc0 rfl
  | 1, _ => exact jm_in_g 750 jm_mc1 rfl
  | 2, _ => exact jm_in_g 754 jm_mc2 rfl
  | 3, _ => exact jm_in_g 808 jm_mc3 rfl
  | 4, _ => exact jm_in_g 812 jm_mc4 rfl
  | 5, _ => exact jm_in_g 944 jm_mc5 rfl
  | 6, _ => exact jm_in_g 948 jm_mc6 rfl
  | 7, _ => exact jm_in_g 955 jm_mc7 rfl
  | 8, _ => exact jm_in_g 959 jm_mc8 rfl
  | 9, _ => exact jm_in_g 963 jm_mc9 rfl
  | 10, _ => exact jm_in_g 687 jm_mc10 rfl
  | 11, _ => exact jm_in_g 183 jm_mc11 rfl
  | 12, _ => exact jm_in_g 190 jm_mc12 rfl
  | 13, _ => exact jm_in_g 206 jm_mc13 rfl
  | 14, _ => exact jm_in_g 214 jm_mc14 rfl
  | 15, _ => exact jm_in_g 218 jm_mc15 rfl
  | 16, _ => exact jm_in_g 210 jm_mc16 rfl
  | 17, _ => exact jm_in_g 222 jm_mc17 rfl
  | 18, _ => exact jm_in_g 226 jm_mc18 rfl
  | 19, _ => exact jm_in_g 826 jm_mc19 rfl
  | 20, _ => exact jm_in_g 724 jm_mc20 rfl
  | 21, _ => exact jm_in_g 740 jm_mc21 rfl
  | 22, _ => exact jm_in_g 714 jm_mc22 rfl
  | 23, _ => exact jm_in_g 940 jm_mc23 rfl
  | 24, _ => exact jm_in_g 861 jm_mc24 rfl
  | 25, _ => exact jm_in_g 792 jm_mc25 rfl
  | 26, _ => exact jm_in_g 796 jm_mc26 rfl
  | 27, _ => exact jm_in_g 788 jm_mc27 rfl
  | 28, _ => exact jm_in_g 975 jm_mc28 rfl
  | 29, _ => exact jm_in_g 1030 jm_mc29 rfl
  | 30, _ => exact jm_in_g 1034 jm_mc30 rfl
  | 31, _ => exact jm_in_g 894 jm_mc31 rfl
  | 32, _ => exact jm_in_g 899 jm_mc32 rfl
  | 33, _ => exact jm_in_g 908 jm_mc33 rfl
  | 34, _ => exact jm_in_g 912 jm_mc34 rfl
  | 35, _ => exact jm_in_g 916 jm_mc35 rfl
  | 36, _ => exact jm_in_g 904 jm_mc36 rfl
  | 37, _ => exact jm_in_g 924 jm_mc37 rfl
  | 38, _ => exact jm_in_g 928 jm_mc38 rfl
  | 39, _ => exact jm_in_g 932 jm_mc39 rfl
  | 40, _ => exact jm_in_g 758 jm_mc40 rfl
  | 41, _ => exact jm_in_g 764 jm_mc41 rfl
  | 42, _ => exact jm_in_g 768 jm_mc42 rfl
  | 43, _ => exact jm_in_g 772 jm_mc43 rfl
  | 44, _ => exact jm_in_g 1121 jm_mc44 rfl
  | 45, _ => exact jm_in_g 776 jm_mc45 rfl
  | 46, _ => exact jm_in_g 780 jm_mc46 rfl
  | 47, _ => exact jm_in_g 784 jm_mc47 rfl
  | 48, _ => exact jm_in_g 869 jm_mc48 rfl
  | 49, _ => exact jm_in_g 876 jm_mc49 rfl
  | 50, _ => exact jm_in_g 844 jm_mc50 rfl
  | 51, _ => exact jm_in_g 853 jm_mc51 rfl
  | 52, _ => exact jm_in_g 849 jm_mc52 rfl
  | 53, _ => exact jm_in_g 698 jm_mc53 rfl
  | 54, _ => exact jm_in_g 830 jm_mc54 rfl
  | 55, _ => exact jm_in_g 971 jm_mc55 rfl
  | 56, _ => exact jm_in_g 992 jm_mc56 rfl
  | 57, _ => exact jm_in_g 834 jm_mc57 rfl
  | 58, _ => exact jm_in_g 840 jm_mc58 rfl
  | 59, _ => exact jm_in_g 865 jm_mc59 rfl
  | 60, _ => exact jm_in_g 857 jm_mc60 rfl
  | 61, _ => exact jm_in_g 1157 jm_mc61 rfl
  | 62, _ => exact jm_in_g 557 jm_mc62 rfl
  | 63, _ => exact jm_in_g 565 jm_mc63 rfl
  | 64, _ => exact jm_in_g 569 jm_mc64 rfl
  | 65, _ => exact jm_in_g 651 jm_mc65 rfl
  | 66, _ => exact jm_in_g 656 jm_mc66 rfl
  | 67, _ => exact jm_in_g 663 jm_mc67 rfl
  | 68, _ => exact jm_in_g 673 jm_mc68 rfl
  | 69, _ => exact jm_in_g 642 jm_mc69 rfl
  | 70, _ => exact jm_in_g 638 jm_mc70 rfl
  | 71, _ => exact jm_in_g 573 jm_mc71 rfl
  | 72, _ => exact jm_in_g 581 jm_mc72 rfl
  | 73, _ => exact jm_in_g 577 jm_mc73 rfl
  | 74, _ => exact jm_in_g 586 jm_mc74 rfl
  | 75, _ => exact jm_in_g 646 jm_mc75 rfl
  | 76, _ => exact jm_in_g 691 jm_mc76 rfl
  | 77, _ => exact jm_in_g 668 jm_mc77 rfl
  | 78, _ => exact jm_in_g 679 jm_mc78 rfl
  | 79, _ => exact jm_in_g 984 jm_mc79 rfl
  | 80, _ => exact jm_in_g 194 jm_mc80 rfl
  | 81, _ => exact jm_in_g 198 jm_mc81 rfl
  | 82, _ => exact jm_in_g 202 jm_mc82 rfl
  | 83, _ => exact jm_in_g 553 jm_mc83 rfl
  | 84, _ => exact jm_in_g 561 jm_mc84 rfl
  | 85, _ => exact jm_in_g 702 jm_mc85 rfl
  | 86, _ => exact jm_in_g 710 jm_mc86 rfl
  | 87, _ => exact jm_in_g 720 jm_mc87 rfl
  | 88, _ => exact jm_in_g 732 jm_mc88 rfl
  | 89, _ => exact jm_in_g 1043 jm_mc89 rfl
  | 90, _ => exact jm_in_g 1115 jm_mc90 rfl
  | 91, _ => exact jm_in_g 736 jm_mc91 rfl
  | 92, _ => exact jm_in_g 800 jm_mc92 rfl
  | 93, _ => exact jm_in_g 1128 jm_mc93 rfl
  | 94, _ => exact jm_in_g 804 jm_mc94 rfl
  | 95, _ => exact jm_in_g 818 jm_mc95 rfl
  | 96, _ => exact jm_in_g 1135 jm_mc96 rfl
  | 97, _ => exact jm_in_g 1143 jm_mc97 rfl
  | 98, _ => exact jm_in_g 882 jm_mc98 rfl
  | 99, _ => exact jm_in_g 1152 jm_mc99 rfl
  | 100, _ => exact jm_in_g 886 jm_mc100 rfl
  | 101, _ => exact jm_in_g 920 jm_mc101 rfl
  | 102, _ => exact jm_in_g 936 jm_mc102 rfl
  | 103, _ => exact jm_in_g 967 jm_mc103 rfl
  | 104, _ => exact jm_in_g 980 jm_mc104 rfl
  | 105, _ => exact jm_in_g 988 jm_mc105 rfl
  | 106, _ => exact jm_in_g 996 jm_mc106 rfl
  | 107, _ => exact jm_in_g 1000 jm_mc107 rfl
  | 108, _ => exact jm_in_g 1008 jm_mc108 rfl
  | 109, _ => exact jm_in_g 1012 jm_mc109 rfl
  | 110, _ => exact jm_in_g 1017 jm_mc110 rfl
  | 111, _ => exact jm_in_g 1022 jm_mc111 rfl
  | 112, _ => exact jm_in_g 1026 jm_mc112 rfl
  | 113, _ => exact jm_in_g 822 jm_mc113 rfl
  | 114, _ => exact jm_in_g 890 jm_mc114 rfl
  | 115, _ => exact jm_in_g 705 jm_mc115 rfl
  | 116, _ => exact jm_in_g 727 jm_mc116 rfl
  | 117, _ => exact jm_in_g 1004 jm_mc117 rfl
  | 118, _ => exact jm_in_g 1161 jm_mc118 rfl
  | 119, _ => exact jm_in_g 1343 jm_mc119 rfl
  | 120, _ => exact jm_in_g 1171 jm_mc120 rfl
  | 121, _ => exact jm_in_g 1407 jm_mc121 rfl
  | 122, _ => exact jm_in_g 1403 jm_mc122 rfl
  | 123, _ => exact jm_in_g 1411 jm_mc123 rfl
  | 124, _ => exact jm_in_g 1399 jm_mc124 rfl
  | 125, _ => exact jm_in_g 1435 jm_mc125 rfl
  | 126, _ => exact jm_in_g 1439 jm_mc126 rfl
  | 127, _ => exact jm_in_g 1447 jm_mc127 rfl
  | 128, _ => exact jm_in_g 1443 jm_mc128 rfl
  | 129, _ => exact jm_in_g 1451 jm_mc129 rfl
  | 130, _ => exact jm_in_g 1459 jm_mc130 rfl
  | 131, _ => exact jm_in_g 1521 jm_mc131 rfl
  | 132, _ => exact jm_in_g 1419 jm_mc132 rfl
  | 133, _ => exact jm_in_g 1332 jm_mc133 rfl
  | 134, _ => exact jm_in_g 1336 jm_mc134 rfl
  | 135, _ => exact jm_in_g 1351 jm_mc135 rfl
  | 136, _ => exact jm_in_g 1354 jm_mc136 rfl
  | 137, _ => exact jm_in_g 1360 jm_mc137 rfl
  | 138, _ => exact jm_in_g 1364 jm_mc138 rfl
  | 139, _ => exact jm_in_g 1347 jm_mc139 rfl
  | 140, _ => exact jm_in_g 1371 jm_mc140 rfl
  | 141, _ => exact jm_in_g 1375 jm_mc141 rfl
  | 142, _ => exact jm_in_g 1379 jm_mc142 rfl
  | 143, _ => exact jm_in_g 1387 jm_mc143 rfl
  | 144, _ => exact jm_in_g 1391 jm_mc144 rfl
  | 145, _ => exact jm_in_g 1383 jm_mc145 rfl
  | 146, _ => exact jm_in_g 1395 jm_mc146 rfl
  | 147, _ => exact jm_in_g 1340 jm_mc147 rfl
  | 148, _ => exact jm_in_g 1415 jm_mc148 rfl
  | 149, _ => exact jm_in_g 1423 jm_mc149 rfl
  | 150, _ => exact jm_in_g 1427 jm_mc150 rfl
  | 151, _ => exact jm_in_g 1431 jm_mc151 rfl
  | 152, _ => exact jm_in_g 1463 jm_mc152 rfl
  | 153, _ => exact jm_in_g 1455 jm_mc153 rfl
  | 154, _ => exact jm_in_g 1480 jm_mc154 rfl
  | 155, _ => exact jm_in_g 1484 jm_mc155 rfl
  | 156, _ => exact jm_in_g 1492 jm_mc156 rfl
  | 157, _ => exact jm_in_g 1488 jm_mc157 rfl
  | 158, _ => exact jm_in_g 1475 jm_mc158 rfl
  | 159, _ => exact jm_in_g 1471 jm_mc159 rfl
  | 160, _ => exact jm_in_g 1467 jm_mc160 rfl
  | 161, _ => exact jm_in_g 1501 jm_mc161 rfl
  | 162, _ => exact jm_in_g 1497 jm_mc162 rfl
  | 163, _ => exact jm_in_g 1505 jm_mc163 rfl
  | 164, _ => exact jm_in_g 1509 jm_mc164 rfl
  | 165, _ => exact jm_in_g 1525 jm_mc165 rfl
  | 166, _ => exact jm_in_g 1533 jm_mc166 rfl
  | 167, _ => exact jm_in_g 1529 jm_mc167 rfl
  | 168, _ => exact jm_in_g 1517 jm_mc168 rfl
  | 169, _ => exact jm_in_g 1513 jm_mc169 rfl
  | 170, _ => exact jm_in_g 1549 jm_mc170 rfl
  | 171, _ => exact jm_in_g 1569 jm_mc171 rfl
  | 172, _ => exact jm_in_g 1561 jm_mc172 rfl
  | 173, _ => exact jm_in_g 1565 jm_mc173 rfl
  | 174, _ => exact jm_in_g 1573 jm_mc174 rfl
  | 175, _ => exact jm_in_g 1557 jm_mc175 rfl
  | 176, _ => exact jm_in_g 1577 jm_mc176 rfl
  | 177, _ => exact jm_in_g 1581 jm_mc177 rfl
  | 178, _ => exact jm_in_g 1553 jm_mc178 rfl
  | 179, _ => exact jm_in_g 1589 jm_mc179 rfl
  | 180, _ => exact jm_in_g 1585 jm_mc180 rfl
  | 181, _ => exact jm_in_g 1541 jm_mc181 rfl
  | 182, _ => exact jm_in_g 1545 jm_mc182 rfl
  | 183, _ => exact jm_in_g 1537 jm_mc183 rfl
  | 184, _ => exact jm_in_g 1593 jm_mc184 rfl
  | 185, _ => exact jm_in_g 1597 jm_mc185 rfl
  | 186, _ => exact jm_in_g 1601 jm_mc186 rfl
  | 187, _ => exact jm_in_g 1605 jm_mc187 rfl
  | 188, _ => exact jm_in_g 1625 jm_mc188 rfl
  | 189, _ => exact jm_in_g 1621 jm_mc189 rfl
  | 190, _ => exact jm_in_g 1617 jm_mc190 rfl
  | 191, _ => exact jm_in_g 1629 jm_mc191 rfl
  | 192, _ => exact jm_in_g 1613 jm_mc192 rfl
  | 193, _ => exact jm_in_g 1609 jm_mc193 rfl
  | 194, _ => exact jm_in_g 1637 jm_mc194 rfl
  | 195, _ => exact jm_in_g 1633 jm_mc195 rfl
  | 196, _ => exact jm_in_g 1645 jm_mc196 rfl
  | 197, _ => exact jm_in_g 1649 jm_mc197 rfl
  | 198, _ => exact jm_in_g 1641 jm_mc198 rfl
  | 199, _ => exact jm_in_g 1657 jm_mc199 rfl
  | 200, _ => exact jm_in_g 1653 jm_mc200 rfl
  | 201, _ => exact jm_in_g 1661 jm_mc201 rfl
  | 202, _ => exact jm_in_g 1669 jm_mc202 rfl
  | 203, _ => exact jm_in_g 1665 jm_mc203 rfl
  | 204, _ => exact jm_in_g 1673 jm_mc204 rfl
  | 205, _ => exact jm_in_g 1681 jm_mc205 rfl
  | 206, _ => exact jm_in_g 1677 jm_mc206 rfl
  | 207, _ => exact jm_in_g 1685 jm_mc207 rfl
  | 208, _ => exact jm_in_g 1689 jm_mc208 rfl
  | 209, _ => exact jm_in_g 1693 jm_mc209 rfl
  | 210, _ => exact jm_in_g 1697 jm_mc210 rfl
  | 211, _ => exact jm_in_g 1709 jm_mc211 rfl
  | 212, _ => exact jm_in_g 1705 jm_mc212 rfl
  | 213, _ => exact jm_in_g 1713 jm_mc213 rfl
  | 214, _ => exact jm_in_g 1701 jm_mc214 rfl
  | 215, _ => exact jm_in_g 186 jm_mc215 rfl
  | m + 216, h => exact absurd h (by omega)
def jm_val (ad : Nat → Nat) : jm_V → Value
  | .inl x => .int (Int32.ofInt x)
  | .inr (.inl c) => .ref (ad c)
  | .inr (.inr x) => .long (Int64.ofInt x)
def jm_okv (ids : List Nat) (m : Nat) : jm_V → Prop
  | .inl x => jm_in x
  | .inr (.inl c) => c ∈ ids ∨ (200 ≤ c ∧ c ≤ 205) ∨ (c = 998 ∧ m = 216)
  | .inr (.inr x) => jm_in x
def jm_okM (M : jm_Mem) : Prop := ∀ c i, c ≠ 999 → jm_in (M c i)
def jm_lr (ad : Nat → Nat) (ids : List Nat) (m : Nat) (ls : jm_Ls) (JL : Array Slot) : Prop :=
  JL.size = (jm_mi m).2.2.2.1 ∧ lv_wf JL ∧ ∀ (i : Nat) (v : jm_V), jm_lg ls i = some v → JL[i]? = some (.val (jm_val ad v)) ∧ jm_okv ids m v ∧ (∀ x, v = .inr (.inr x) → m = 140)
def jm_cv (ad : Nat → Nat) (M : jm_Mem) (c k : Nat) : Nat → Value
  | 0 => .int (Int32.ofInt (M c (k : Int)))
  | 1 => .long (Int64.ofInt (M c (k : Int)))
  | 2 => .int (Int32.ofInt (M c (k : Int)))
  | t + 3 => .ref (ad t)
def jm_fv (ad : Nat → Nat) (M : jm_Mem) (c : Nat) : Nat → List Nat → List Value
  | _, [] => []
  | k, f :: fs => jm_cv ad M c k f :: jm_fv ad M c (k + 1) fs
def jm_ce (cA : Nat → ClassId) (ad : Nat → Nat) (M : jm_Mem) (c : Nat) : va_E := match jm_sh c with
  | (0, n, _) => .inl (cA 0, n, .inl (fun j => Int32.ofInt (M c (j : Int))))
  | (1, n, _) => .inl (cA 1, n, .inl (fun j => Int32.ofInt (M c (j : Int))))
  | (2, n, _) => .inl (cA 2, n, .inl (fun j => Int32.ofInt (M c (j : Int))))
  | (3, n, _) => .inl (cA 3, n, .inr (.inl (fun j => Int64.ofInt (M c (j : Int)))))
  | (4, n, ts) => .inl (cA 4, n, .inr (.inr (.inr (.inr (fun j => some (ad (ts.getD j 0)))))))
  | (k, _, fs) => .inr (k - 10, jm_fv ad M c 0 fs)
def jm_wd (cA : Nat → ClassId) (ad : Nat → Nat) (ids : List Nat) (M : jm_Mem) : va_W := ids.map (fun c => (ad c, jm_ce cA ad M c))
/-- the cells that are there: apart, changeable, closed under references -/
def jm_wok (ad : Nat → Nat) (ids : List Nat) (A : Nat → Prop) : Prop := ids.Nodup ∧ (∀ c ∈ ids, c < 95) ∧ (∀ c ∈ ids, ∀ d ∈ ids, ad c = ad d → c = d) ∧ (∀ c ∈ ids, A (ad c)) ∧ (∀ c ∈ ids, 10 ≤ (jm_sh c).1 → ∀ k t, jm_fk c k = some (t + 3) → t ∈ ids) ∧ (∀ c ∈ ids, ∀ a b, jm_sh c = (4, 2, [a, b]) → a ∈ ids ∧ b ∈ ids)
def jm_tys (cA : Nat → ClassId) : List (ClassId × FieldType) := [(cA 0, .int), (cA 1, .boolean), (cA 2, .byte), (cA 3, .long), (cA 4, .object RX8)]
def jm_six : List Nat := [45, 64, 69, 75, 77, 79]
def jm_stx : List String := ["grid", "all", "right", "down", "slash", "back"]
def jm_slen : List Nat := [4, 3, 5, 4, 5, 4]
def jm_sbyt : List (List Int32) := [[103, 114, 105, 100], [97, 108, 108], [114, 105, 103, 104, 116], [100, 111, 119, 110], [115, 108, 97, 115, 104], [98, 97, 99, 107]]
def jm_xix : List Nat := [155, 163, 212, 217, 241]
def jm_xtx : List String := ["no such face", "no such faces", "no such edge, or no flow", "no such edge or way, or no flow", "no such node, or no flow"]
def jx_N : String := "java/util/NoSuchElementException"
def jx_Kw : List Cond := [.castable jx_N jx_N, .declares (Bundle.initS "java/lang/RuntimeException"), .declares (Bundle.initS "java/lang/Exception"), .declares (Bundle.initS "java/lang/Throwable")]
def jx_K (U : State) : Prop := ∀ w ∈ jx_Kw, w.before #[] U = true
theorem jx_K_to {s U : State} (al : s.vm.Alike U.vm) (h : jx_K s) : jx_K U := by
  intro w hw
  simp only [jx_Kw, List.mem_cons, List.not_mem_nil, or_false] at hw
  rcases hw with rfl | rfl | rfl | rfl
  · exact va_tabs rfl (rfl : (s.setVm U.vm).vm = U.vm) (by rw [Cond.castable_setVm al]; exact h _ List.mem_cons_self)
  · exact va_tabs rfl (rfl : (s.setVm U.vm).vm = U.vm) (by rw [Cond.declares_setVm al]; exact h _ (List.mem_cons_of_mem _ List.mem_cons_self))
  · exact va_tabs rfl (rfl : (s.setVm U.vm).vm = U.vm) (by rw [Cond.declares_setVm al]; exact h _ (List.mem_cons_of_mem _ (List.mem_cons_of_mem _ List.mem_cons_self)))
  · exact va_tabs rfl (rfl : (s.setVm U.vm).vm = U.vm) (by rw [Cond.declares_setVm al]; exact h _ (List.mem_cons_of_mem _ (List.mem_cons_of_mem _ (List.mem_cons_of_mem _ List.mem_cons_self))))
/-- what holds of a state all along: classes, the constants, what a throw needs -/
def jm_ctx (dC : Nat → ClassId) (dI : Nat → Nat → Nat) (cA : Nat → ClassId) (ad adV : Nat → Nat) (A : Nat → Prop) (U : State) (H : Heap) : Prop :=
  va_K (dC, dI) vwCl (jm_tys cA) U ∧ vk_S 6 jm_slen jm_sbyt (fun i => ad (200 + i)) adV A U H ∧ (∀ i, i < 6 → vk_R RX7 (jm_six.getD i 0) (jm_stx.getD i "") (ad (200 + i)) U) ∧ (∀ i, i < 5 → ∃ a, vk_R RX9 (jm_xix.getD i 0) (jm_xtx.getD i "") a U) ∧ vx_Zq Bundle.tN "UNASSIGNED_STACK" Bundle.steD A U H ∧ vx_Zq Bundle.tN "SUPPRESSED_SENTINEL" Bundle.listD A U H ∧ va_Z "java/lang/String" "COMPACT_STRINGS" "Z" (.int 1) A U H ∧ va_Zq "jdk/internal/util/Preconditions" "SIOOBE_FORMATTER" "Ljava/util/function/BiFunction;" A U H ∧ jx_K U
