/-! THE LAW, in pieces -/
set_option maxRecDepth 100000 in
theorem jm_ckm216_0 : jm_ckL 216 0 jm_cd216_0 = true := by decide +kernel
set_option maxRecDepth 100000 in
theorem jm_ckm216_1 : jm_ckL 216 100 jm_cd216_1 = true := by decide +kernel
set_option maxRecDepth 100000 in
theorem jm_ckm216_2 : jm_ckL 216 200 jm_cd216_2 = true := by decide +kernel
