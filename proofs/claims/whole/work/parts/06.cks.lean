/-! EVERY ROW OF CODE, method by method -/
set_option maxRecDepth 100000 in
theorem jm_ckm0 : jm_ckL 0 0 jm_cd0 = true := by decide +kernel
set_option maxRecDepth 100000 in
theorem jm_ckm1 : jm_ckL 1 0 jm_cd1 = true := by decide +kernel
set_option maxRecDepth 100000 in
theorem jm_ckm2 : jm_ckL 2 0 jm_cd2 = true := by decide +kernel
set_option maxRecDepth 100000 in
theorem jm_ckm3 : jm_ckL 3 0 jm_cd3 = true := by decide +kernel
set_option maxRecDepth 100000 in
theorem jm_ckm4 : jm_ckL 4 0 jm_cd4 = true := by decide +kernel
set_option maxRecDepth 100000 in
theorem jm_ckm5 : jm_ckL 5 0 jm_cd5 = true := by decide +kernel
set_option maxRecDepth 100000 in
theorem jm_ckm6 : jm_ckL 6 0 jm_cd6 = true := by decide +kernel
set_option maxRecDepth 100000 in
theorem jm_ckm7 : jm_ckL 7 0 jm_cd7 = true := by decide +kernel
set_option maxRecDepth 100000 in
theorem jm_ckm8 : jm_ckL 8 0 jm_cd8 = true := by decide +kernel
set_option maxRecDepth 100000 in
theorem jm_ckm9 : jm_ckL 9 0 jm_cd9 = true := by decide +kernel
set_option maxRecDepth 100000 in
theorem jm_ckm10 : jm_ckL 10 0 jm_cd10 = true := by decide +kernel
set_option maxRecDepth 100000 in
theorem jm_ckm11 : jm_ckL 11 0 jm_cd11 = true := by decide +kernel
set_option maxRecDepth 100000 in
theorem jm_ckm12 : jm_ckL 12 0 jm_cd12 = true := by decide +kernel
set_option maxRecDepth 100000 in
theorem jm_ckm13 : jm_ckL 13 0 jm_cd13 = true := by decide +kernel
set_option maxRecDepth 100000 in
theorem jm_ckm14 : jm_ckL 14 0 jm_cd14 = true := by decide +kernel
set_option maxRecDepth 100000 in
theorem jm_ckm15 : jm_ckL 15 0 jm_cd15 = true := by decide +kernel
set_option maxRecDepth 100000 in
theorem jm_ckm16 : jm_ckL 16 0 jm_cd16 = true := by decide +kernel
set_option maxRecDepth 100000 in
theorem jm_ckm17 : jm_ckL 17 0 jm_cd17 = true := by decide +kernel
set_option maxRecDepth 100000 in
theorem jm_ckm18 : jm_ckL 18 0 jm_cd18 = true := by decide +kernel
set_option maxRecDepth 100000 in
theorem jm_ckm19 : jm_ckL 19 0 jm_cd19 = true := by decide +kernel
set_option maxRecDepth 100000 in
theorem jm_ckm20 : jm_ckL 20 0 jm_cd20 = true := by decide +kernel
set_option maxRecDepth 100000 in
theorem jm_ckm21 : jm_ckL 21 0 jm_cd21 = true := by decide +kernel
set_option maxRecDepth 100000 in
theorem jm_ckm22 : jm_ckL 22 0 jm_cd22 = true := by decide +kernel
set_option maxRecDepth 100000 in
theorem jm_ckm23 : jm_ckL 23 0 jm_cd23 = true := by decide +kernel
set_option maxRecDepth 100000 in
theorem jm_ckm24 : jm_ckL 24 0 jm_cd24 = true := by decide +kernel
set_option maxRecDepth 100000 in
theorem jm_ckm25 : jm_ckL 25 0 jm_cd25 = true := by decide +kernel
set_option maxRecDepth 100000 in
theorem jm_ckm26 : jm_ckL 26 0 jm_cd26 = true := by decide +kernel
set_option maxRecDepth 100000 in
theorem jm_ckm27 : jm_ckL 27 0 jm_cd27 = true := by decide +kernel
set_option maxRecDepth 100000 in
theorem jm_ckm28 : jm_ckL 28 0 jm_cd28 = true := by decide +kernel
set_option maxRecDepth 100000 in
theorem jm_ckm29 : jm_ckL 29 0 jm_cd29 = true := by decide +kernel
set_option maxRecDepth 100000 in
theorem jm_ckm30 : jm_ckL 30 0 jm_cd30 = true := by decide +kernel
set_option maxRecDepth 100000 in
theorem jm_ckm31 : jm_ckL 31 0 jm_cd31 = true := by decide +kernel
set_option maxRecDepth 100000 in
theorem jm_ckm32 : jm_ckL 32 0 jm_cd32 = true := by decide +kernel
set_option maxRecDepth 100000 in
theorem jm_ckm33 : jm_ckL 33 0 jm_cd33 = true := by decide +kernel
set_option maxRecDepth 100000 in
theorem jm_ckm34 : jm_ckL 34 0 jm_cd34 = true := by decide +kernel
set_option maxRecDepth 100000 in
theorem jm_ckm35 : jm_ckL 35 0 jm_cd35 = true := by decide +kernel
set_option maxRecDepth 100000 in
theorem jm_ckm36 : jm_ckL 36 0 jm_cd36 = true := by decide +kernel
set_option maxRecDepth 100000 in
theorem jm_ckm37 : jm_ckL 37 0 jm_cd37 = true := by decide +kernel
set_option maxRecDepth 100000 in
theorem jm_ckm38 : jm_ckL 38 0 jm_cd38 = true := by decide +kernel
set_option maxRecDepth 100000 in
theorem jm_ckm39 : jm_ckL 39 0 jm_cd39 = true := by decide +kernel
set_option maxRecDepth 100000 in
theorem jm_ckm40 : jm_ckL 40 0 jm_cd40 = true := by decide +kernel
set_option maxRecDepth 100000 in
theorem jm_ckm41 : jm_ckL 41 0 jm_cd41 = true := by decide +kernel
set_option maxRecDepth 100000 in
theorem jm_ckm42 : jm_ckL 42 0 jm_cd42 = true := by decide +kernel
set_option maxRecDepth 100000 in
theorem jm_ckm43 : jm_ckL 43 0 jm_cd43 = true := by decide +kernel
set_option maxRecDepth 100000 in
theorem jm_ckm44 : jm_ckL 44 0 jm_cd44 = true := by decide +kernel
set_option maxRecDepth 100000 in
theorem jm_ckm45 : jm_ckL 45 0 jm_cd45 = true := by decide +kernel
set_option maxRecDepth 100000 in
theorem jm_ckm46 : jm_ckL 46 0 jm_cd46 = true := by decide +kernel
set_option maxRecDepth 100000 in
theorem jm_ckm47 : jm_ckL 47 0 jm_cd47 = true := by decide +kernel
set_option maxRecDepth 100000 in
theorem jm_ckm48 : jm_ckL 48 0 jm_cd48 = true := by decide +kernel
set_option maxRecDepth 100000 in
theorem jm_ckm49 : jm_ckL 49 0 jm_cd49 = true := by decide +kernel
set_option maxRecDepth 100000 in
theorem jm_ckm50 : jm_ckL 50 0 jm_cd50 = true := by decide +kernel
set_option maxRecDepth 100000 in
theorem jm_ckm51 : jm_ckL 51 0 jm_cd51 = true := by decide +kernel
set_option maxRecDepth 100000 in
theorem jm_ckm52 : jm_ckL 52 0 jm_cd52 = true := by decide +kernel
set_option maxRecDepth 100000 in
theorem jm_ckm53 : jm_ckL 53 0 jm_cd53 = true := by decide +kernel
set_option maxRecDepth 100000 in
theorem jm_ckm54 : jm_ckL 54 0 jm_cd54 = true := by decide +kernel
set_option maxRecDepth 100000 in
theorem jm_ckm55 : jm_ckL 55 0 jm_cd55 = true := by decide +kernel
set_option maxRecDepth 100000 in
theorem jm_ckm56 : jm_ckL 56 0 jm_cd56 = true := by decide +kernel
set_option maxRecDepth 100000 in
theorem jm_ckm57 : jm_ckL 57 0 jm_cd57 = true := by decide +kernel
set_option maxRecDepth 100000 in
theorem jm_ckm58 : jm_ckL 58 0 jm_cd58 = true := by decide +kernel
set_option maxRecDepth 100000 in
theorem jm_ckm59 : jm_ckL 59 0 jm_cd59 = true := by decide +kernel
set_option maxRecDepth 100000 in
theorem jm_ckm60 : jm_ckL 60 0 jm_cd60 = true := by decide +kernel
set_option maxRecDepth 100000 in
theorem jm_ckm61 : jm_ckL 61 0 jm_cd61 = true := by decide +kernel
set_option maxRecDepth 100000 in
theorem jm_ckm62 : jm_ckL 62 0 jm_cd62 = true := by decide +kernel
set_option maxRecDepth 100000 in
theorem jm_ckm63 : jm_ckL 63 0 jm_cd63 = true := by decide +kernel
set_option maxRecDepth 100000 in
theorem jm_ckm64 : jm_ckL 64 0 jm_cd64 = true := by decide +kernel
set_option maxRecDepth 100000 in
theorem jm_ckm65 : jm_ckL 65 0 jm_cd65 = true := by decide +kernel
set_option maxRecDepth 100000 in
theorem jm_ckm66 : jm_ckL 66 0 jm_cd66 = true := by decide +kernel
set_option maxRecDepth 100000 in
theorem jm_ckm67 : jm_ckL 67 0 jm_cd67 = true := by decide +kernel
set_option maxRecDepth 100000 in
theorem jm_ckm68 : jm_ckL 68 0 jm_cd68 = true := by decide +kernel
set_option maxRecDepth 100000 in
theorem jm_ckm69 : jm_ckL 69 0 jm_cd69 = true := by decide +kernel
set_option maxRecDepth 100000 in
theorem jm_ckm70 : jm_ckL 70 0 jm_cd70 = true := by decide +kernel
set_option maxRecDepth 100000 in
theorem jm_ckm71 : jm_ckL 71 0 jm_cd71 = true := by decide +kernel
set_option maxRecDepth 100000 in
theorem jm_ckm72 : jm_ckL 72 0 jm_cd72 = true := by decide +kernel
set_option maxRecDepth 100000 in
theorem jm_ckm73 : jm_ckL 73 0 jm_cd73 = true := by decide +kernel
set_option maxRecDepth 100000 in
theorem jm_ckm74 : jm_ckL 74 0 jm_cd74 = true := by decide +kernel
set_option maxRecDepth 100000 in
theorem jm_ckm75 : jm_ckL 75 0 jm_cd75 = true := by decide +kernel
set_option maxRecDepth 100000 in
theorem jm_ckm76 : jm_ckL 76 0 jm_cd76 = true := by decide +kernel
set_option maxRecDepth 100000 in
theorem jm_ckm77 : jm_ckL 77 0 jm_cd77 = true := by decide +kernel
set_option maxRecDepth 100000 in
theorem jm_ckm78 : jm_ckL 78 0 jm_cd78 = true := by decide +kernel
set_option maxRecDepth 100000 in
theorem jm_ckm79 : jm_ckL 79 0 jm_cd79 = true := by decide +kernel
set_option maxRecDepth 100000 in
theorem jm_ckm80 : jm_ckL 80 0 jm_cd80 = true := by decide +kernel
set_option maxRecDepth 100000 in
theorem jm_ckm81 : jm_ckL 81 0 jm_cd81 = true := by decide +kernel
set_option maxRecDepth 100000 in
theorem jm_ckm82 : jm_ckL 82 0 jm_cd82 = true := by decide +kernel
set_option maxRecDepth 100000 in
theorem jm_ckm83 : jm_ckL 83 0 jm_cd83 = true := by decide +kernel
set_option maxRecDepth 100000 in
theorem jm_ckm84 : jm_ckL 84 0 jm_cd84 = true := by decide +kernel
set_option maxRecDepth 100000 in
theorem jm_ckm85 : jm_ckL 85 0 jm_cd85 = true := by decide +kernel
set_option maxRecDepth 100000 in
theorem jm_ckm86 : jm_ckL 86 0 jm_cd86 = true := by decide +kernel
set_option maxRecDepth 100000 in
theorem jm_ckm87 : jm_ckL 87 0 jm_cd87 = true := by decide +kernel
set_option maxRecDepth 100000 in
theorem jm_ckm88 : jm_ckL 88 0 jm_cd88 = true := by decide +kernel
set_option maxRecDepth 100000 in
theorem jm_ckm89 : jm_ckL 89 0 jm_cd89 = true := by decide +kernel
set_option maxRecDepth 100000 in
theorem jm_ckm90 : jm_ckL 90 0 jm_cd90 = true := by decide +kernel
set_option maxRecDepth 100000 in
theorem jm_ckm91 : jm_ckL 91 0 jm_cd91 = true := by decide +kernel
set_option maxRecDepth 100000 in
theorem jm_ckm92 : jm_ckL 92 0 jm_cd92 = true := by decide +kernel
set_option maxRecDepth 100000 in
theorem jm_ckm93 : jm_ckL 93 0 jm_cd93 = true := by decide +kernel
set_option maxRecDepth 100000 in
theorem jm_ckm94 : jm_ckL 94 0 jm_cd94 = true := by decide +kernel
set_option maxRecDepth 100000 in
theorem jm_ckm95 : jm_ckL 95 0 jm_cd95 = true := by decide +kernel
set_option maxRecDepth 100000 in
theorem jm_ckm96 : jm_ckL 96 0 jm_cd96 = true := by decide +kernel
set_option maxRecDepth 100000 in
theorem jm_ckm97 : jm_ckL 97 0 jm_cd97 = true := by decide +kernel
set_option maxRecDepth 100000 in
theorem jm_ckm98 : jm_ckL 98 0 jm_cd98 = true := by decide +kernel
set_option maxRecDepth 100000 in
theorem jm_ckm99 : jm_ckL 99 0 jm_cd99 = true := by decide +kernel
set_option maxRecDepth 100000 in
theorem jm_ckm100 : jm_ckL 100 0 jm_cd100 = true := by decide +kernel
set_option maxRecDepth 100000 in
theorem jm_ckm101 : jm_ckL 101 0 jm_cd101 = true := by decide +kernel
set_option maxRecDepth 100000 in
theorem jm_ckm102 : jm_ckL 102 0 jm_cd102 = true := by decide +kernel
set_option maxRecDepth 100000 in
theorem jm_ckm103 : jm_ckL 103 0 jm_cd103 = true := by decide +kernel
set_option maxRecDepth 100000 in
theorem jm_ckm104 : jm_ckL 104 0 jm_cd104 = true := by decide +kernel
set_option maxRecDepth 100000 in
theorem jm_ckm105 : jm_ckL 105 0 jm_cd105 = true := by decide +kernel
set_option maxRecDepth 100000 in
theorem jm_ckm106 : jm_ckL 106 0 jm_cd106 = true := by decide +kernel
set_option maxRecDepth 100000 in
theorem jm_ckm107 : jm_ckL 107 0 jm_cd107 = true := by decide +kernel
set_option maxRecDepth 100000 in
theorem jm_ckm108 : jm_ckL 108 0 jm_cd108 = true := by decide +kernel
set_option maxRecDepth 100000 in
theorem jm_ckm109 : jm_ckL 109 0 jm_cd109 = true := by decide +kernel
set_option maxRecDepth 100000 in
theorem jm_ckm110 : jm_ckL 110 0 jm_cd110 = true := by decide +kernel
set_option maxRecDepth 100000 in
theorem jm_ckm111 : jm_ckL 111 0 jm_cd111 = true := by decide +kernel
set_option maxRecDepth 100000 in
theorem jm_ckm112 : jm_ckL 112 0 jm_cd112 = true := by decide +kernel
set_option maxRecDepth 100000 in
theorem jm_ckm113 : jm_ckL 113 0 jm_cd113 = true := by decide +kernel
set_option maxRecDepth 100000 in
theorem jm_ckm114 : jm_ckL 114 0 jm_cd114 = true := by decide +kernel
set_option maxRecDepth 100000 in
theorem jm_ckm115 : jm_ckL 115 0 jm_cd115 = true := by decide +kernel
set_option maxRecDepth 100000 in
theorem jm_ckm116 : jm_ckL 116 0 jm_cd116 = true := by decide +kernel
set_option maxRecDepth 100000 in
theorem jm_ckm117 : jm_ckL 117 0 jm_cd117 = true := by decide +kernel
set_option maxRecDepth 100000 in
theorem jm_ckm118 : jm_ckL 118 0 jm_cd118 = true := by decide +kernel
set_option maxRecDepth 100000 in
theorem jm_ckm119 : jm_ckL 119 0 jm_cd119 = true := by decide +kernel
set_option maxRecDepth 100000 in
theorem jm_ckm120 : jm_ckL 120 0 jm_cd120 = true := by decide +kernel
set_option maxRecDepth 100000 in
theorem jm_ckm121 : jm_ckL 121 0 jm_cd121 = true := by decide +kernel
set_option maxRecDepth 100000 in
theorem jm_ckm122 : jm_ckL 122 0 jm_cd122 = true := by decide +kernel
set_option maxRecDepth 100000 in
theorem jm_ckm123 : jm_ckL 123 0 jm_cd123 = true := by decide +kernel
set_option maxRecDepth 100000 in
theorem jm_ckm124 : jm_ckL 124 0 jm_cd124 = true := by decide +kernel
set_option maxRecDepth 100000 in
theorem jm_ckm125 : jm_ckL 125 0 jm_cd125 = true := by decide +kernel
set_option maxRecDepth 100000 in
theorem jm_ckm126 : jm_ckL 126 0 jm_cd126 = true := by decide +kernel
set_option maxRecDepth 100000 in
theorem jm_ckm127 : jm_ckL 127 0 jm_cd127 = true := by decide +kernel
set_option maxRecDepth 100000 in
theorem jm_ckm128 : jm_ckL 128 0 jm_cd128 = true := by decide +kernel
set_option maxRecDepth 100000 in
theorem jm_ckm129 : jm_ckL 129 0 jm_cd129 = true := by decide +kernel
set_option maxRecDepth 100000 in
theorem jm_ckm130 : jm_ckL 130 0 jm_cd130 = true := by decide +kernel
set_option maxRecDepth 100000 in
theorem jm_ckm131 : jm_ckL 131 0 jm_cd131 = true := by decide +kernel
set_option maxRecDepth 100000 in
theorem jm_ckm132 : jm_ckL 132 0 jm_cd132 = true := by decide +kernel
set_option maxRecDepth 100000 in
theorem jm_ckm133 : jm_ckL 133 0 jm_cd133 = true := by decide +kernel
set_option maxRecDepth 100000 in
theorem jm_ckm134 : jm_ckL 134 0 jm_cd134 = true := by decide +kernel
set_option maxRecDepth 100000 in
theorem jm_ckm135 : jm_ckL 135 0 jm_cd135 = true := by decide +kernel
set_option maxRecDepth 100000 in
theorem jm_ckm136 : jm_ckL 136 0 jm_cd136 = true := by decide +kernel
set_option maxRecDepth 100000 in
theorem jm_ckm137 : jm_ckL 137 0 jm_cd137 = true := by decide +kernel
set_option maxRecDepth 100000 in
theorem jm_ckm138 : jm_ckL 138 0 jm_cd138 = true := by decide +kernel
set_option maxRecDepth 100000 in
theorem jm_ckm139 : jm_ckL 139 0 jm_cd139 = true := by decide +kernel
set_option maxRecDepth 100000 in
theorem jm_ckm140 : jm_ckL 140 0 jm_cd140 = true := by decide +kernel
set_option maxRecDepth 100000 in
theorem jm_ckm141 : jm_ckL 141 0 jm_cd141 = true := by decide +kernel
set_option maxRecDepth 100000 in
theorem jm_ckm142 : jm_ckL 142 0 jm_cd142 = true := by decide +kernel
set_option maxRecDepth 100000 in
theorem jm_ckm143 : jm_ckL 143 0 jm_cd143 = true := by decide +kernel
set_option maxRecDepth 100000 in
theorem jm_ckm144 : jm_ckL 144 0 jm_cd144 = true := by decide +kernel
set_option maxRecDepth 100000 in
theorem jm_ckm145 : jm_ckL 145 0 jm_cd145 = true := by decide +kernel
set_option maxRecDepth 100000 in
theorem jm_ckm146 : jm_ckL 146 0 jm_cd146 = true := by decide +kernel
set_option maxRecDepth 100000 in
theorem jm_ckm147 : jm_ckL 147 0 jm_cd147 = true := by decide +kernel
set_option maxRecDepth 100000 in
theorem jm_ckm148 : jm_ckL 148 0 jm_cd148 = true := by decide +kernel
set_option maxRecDepth 100000 in
theorem jm_ckm149 : jm_ckL 149 0 jm_cd149 = true := by decide +kernel
set_option maxRecDepth 100000 in
theorem jm_ckm150 : jm_ckL 150 0 jm_cd150 = true := by decide +kernel
set_option maxRecDepth 100000 in
theorem jm_ckm151 : jm_ckL 151 0 jm_cd151 = true := by decide +kernel
set_option maxRecDepth 100000 in
theorem jm_ckm152 : jm_ckL 152 0 jm_cd152 = true := by decide +kernel
set_option maxRecDepth 100000 in
theorem jm_ckm153 : jm_ckL 153 0 jm_cd153 = true := by decide +kernel
set_option maxRecDepth 100000 in
theorem jm_ckm154 : jm_ckL 154 0 jm_cd154 = true := by decide +kernel
set_option maxRecDepth 100000 in
theorem jm_ckm155 : jm_ckL 155 0 jm_cd155 = true := by decide +kernel
set_option maxRecDepth 100000 in
theorem jm_ckm156 : jm_ckL 156 0 jm_cd156 = true := by decide +kernel
set_option maxRecDepth 100000 in
theorem jm_ckm157 : jm_ckL 157 0 jm_cd157 = true := by decide +kernel
set_option maxRecDepth 100000 in
theorem jm_ckm158 : jm_ckL 158 0 jm_cd158 = true := by decide +kernel
set_option maxRecDepth 100000 in
theorem jm_ckm159 : jm_ckL 159 0 jm_cd159 = true := by decide +kernel
set_option maxRecDepth 100000 in
theorem jm_ckm160 : jm_ckL 160 0 jm_cd160 = true := by decide +kernel
set_option maxRecDepth 100000 in
theorem jm_ckm161 : jm_ckL 161 0 jm_cd161 = true := by decide +kernel
set_option maxRecDepth 100000 in
theorem jm_ckm162 : jm_ckL 162 0 jm_cd162 = true := by decide +kernel
set_option maxRecDepth 100000 in
theorem jm_ckm163 : jm_ckL 163 0 jm_cd163 = true := by decide +kernel
set_option maxRecDepth 100000 in
theorem jm_ckm164 : jm_ckL 164 0 jm_cd164 = true := by decide +kernel
set_option maxRecDepth 100000 in
theorem jm_ckm165 : jm_ckL 165 0 jm_cd165 = true := by decide +kernel
set_option maxRecDepth 100000 in
theorem jm_ckm166 : jm_ckL 166 0 jm_cd166 = true := by decide +kernel
set_option maxRecDepth 100000 in
theorem jm_ckm167 : jm_ckL 167 0 jm_cd167 = true := by decide +kernel
set_option maxRecDepth 100000 in
theorem jm_ckm168 : jm_ckL 168 0 jm_cd168 = true := by decide +kernel
set_option maxRecDepth 100000 in
theorem jm_ckm169 : jm_ckL 169 0 jm_cd169 = true := by decide +kernel
set_option maxRecDepth 100000 in
theorem jm_ckm170 : jm_ckL 170 0 jm_cd170 = true := by decide +kernel
set_option maxRecDepth 100000 in
theorem jm_ckm171 : jm_ckL 171 0 jm_cd171 = true := by decide +kernel
set_option maxRecDepth 100000 in
theorem jm_ckm172 : jm_ckL 172 0 jm_cd172 = true := by decide +kernel
set_option maxRecDepth 100000 in
theorem jm_ckm173 : jm_ckL 173 0 jm_cd173 = true := by decide +kernel
set_option maxRecDepth 100000 in
theorem jm_ckm174 : jm_ckL 174 0 jm_cd174 = true := by decide +kernel
set_option maxRecDepth 100000 in
theorem jm_ckm175 : jm_ckL 175 0 jm_cd175 = true := by decide +kernel
set_option maxRecDepth 100000 in
theorem jm_ckm176 : jm_ckL 176 0 jm_cd176 = true := by decide +kernel
set_option maxRecDepth 100000 in
theorem jm_ckm177 : jm_ckL 177 0 jm_cd177 = true := by decide +kernel
set_option maxRecDepth 100000 in
theorem jm_ckm178 : jm_ckL 178 0 jm_cd178 = true := by decide +kernel
set_option maxRecDepth 100000 in
theorem jm_ckm179 : jm_ckL 179 0 jm_cd179 = true := by decide +kernel
set_option maxRecDepth 100000 in
theorem jm_ckm180 : jm_ckL 180 0 jm_cd180 = true := by decide +kernel
set_option maxRecDepth 100000 in
theorem jm_ckm181 : jm_ckL 181 0 jm_cd181 = true := by decide +kernel
set_option maxRecDepth 100000 in
theorem jm_ckm182 : jm_ckL 182 0 jm_cd182 = true := by decide +kernel
set_option maxRecDepth 100000 in
theorem jm_ckm183 : jm_ckL 183 0 jm_cd183 = true := by decide +kernel
set_option maxRecDepth 100000 in
theorem jm_ckm184 : jm_ckL 184 0 jm_cd184 = true := by decide +kernel
set_option maxRecDepth 100000 in
theorem jm_ckm185 : jm_ckL 185 0 jm_cd185 = true := by decide +kernel
set_option maxRecDepth 100000 in
theorem jm_ckm186 : jm_ckL 186 0 jm_cd186 = true := by decide +kernel
set_option maxRecDepth 100000 in
theorem jm_ckm187 : jm_ckL 187 0 jm_cd187 = true := by decide +kernel
set_option maxRecDepth 100000 in
theorem jm_ckm188 : jm_ckL 188 0 jm_cd188 = true := by decide +kernel
set_option maxRecDepth 100000 in
theorem jm_ckm189 : jm_ckL 189 0 jm_cd189 = true := by decide +kernel
set_option maxRecDepth 100000 in
theorem jm_ckm190 : jm_ckL 190 0 jm_cd190 = true := by decide +kernel
set_option maxRecDepth 100000 in
theorem jm_ckm191 : jm_ckL 191 0 jm_cd191 = true := by decide +kernel
set_option maxRecDepth 100000 in
theorem jm_ckm192 : jm_ckL 192 0 jm_cd192 = true := by decide +kernel
set_option maxRecDepth 100000 in
theorem jm_ckm193 : jm_ckL 193 0 jm_cd193 = true := by decide +kernel
set_option maxRecDepth 100000 in
theorem jm_ckm194 : jm_ckL 194 0 jm_cd194 = true := by decide +kernel
set_option maxRecDepth 100000 in
theorem jm_ckm195 : jm_ckL 195 0 jm_cd195 = true := by decide +kernel
set_option maxRecDepth 100000 in
theorem jm_ckm196 : jm_ckL 196 0 jm_cd196 = true := by decide +kernel
set_option maxRecDepth 100000 in
theorem jm_ckm197 : jm_ckL 197 0 jm_cd197 = true := by decide +kernel
set_option maxRecDepth 100000 in
theorem jm_ckm198 : jm_ckL 198 0 jm_cd198 = true := by decide +kernel
set_option maxRecDepth 100000 in
theorem jm_ckm199 : jm_ckL 199 0 jm_cd199 = true := by decide +kernel
set_option maxRecDepth 100000 in
theorem jm_ckm200 : jm_ckL 200 0 jm_cd200 = true := by decide +kernel
set_option maxRecDepth 100000 in
theorem jm_ckm201 : jm_ckL 201 0 jm_cd201 = true := by decide +kernel
set_option maxRecDepth 100000 in
theorem jm_ckm202 : jm_ckL 202 0 jm_cd202 = true := by decide +kernel
set_option maxRecDepth 100000 in
theorem jm_ckm203 : jm_ckL 203 0 jm_cd203 = true := by decide +kernel
set_option maxRecDepth 100000 in
theorem jm_ckm204 : jm_ckL 204 0 jm_cd204 = true := by decide +kernel
set_option maxRecDepth 100000 in
theorem jm_ckm205 : jm_ckL 205 0 jm_cd205 = true := by decide +kernel
set_option maxRecDepth 100000 in
theorem jm_ckm206 : jm_ckL 206 0 jm_cd206 = true := by decide +kernel
set_option maxRecDepth 100000 in
theorem jm_ckm207 : jm_ckL 207 0 jm_cd207 = true := by decide +kernel
set_option maxRecDepth 100000 in
theorem jm_ckm208 : jm_ckL 208 0 jm_cd208 = true := by decide +kernel
set_option maxRecDepth 100000 in
theorem jm_ckm209 : jm_ckL 209 0 jm_cd209 = true := by decide +kernel
set_option maxRecDepth 100000 in
theorem jm_ckm210 : jm_ckL 210 0 jm_cd210 = true := by decide +kernel
set_option maxRecDepth 100000 in
theorem jm_ckm211 : jm_ckL 211 0 jm_cd211 = true := by decide +kernel
set_option maxRecDepth 100000 in
theorem jm_ckm212 : jm_ckL 212 0 jm_cd212 = true := by decide +kernel
set_option maxRecDepth 100000 in
theorem jm_ckm213 : jm_ckL 213 0 jm_cd213 = true := by decide +kernel
set_option maxRecDepth 100000 in
theorem jm_ckm214 : jm_ckL 214 0 jm_cd214 = true := by decide +kernel
set_option maxRecDepth 100000 in
theorem jm_ckm215 : jm_ckL 215 0 jm_cd215 = true := by decide +kernel
