/-! THE LAW, in pieces -/
set_option maxRecDepth 100000 in
theorem jm_ckm216_3 : jm_ckL 216 300 jm_cd216_3 = true := by decide +kernel
set_option maxRecDepth 100000 in
theorem jm_ckm216_4 : jm_ckL 216 400 jm_cd216_4 = true := by decide +kernel
set_option maxRecDepth 100000 in
theorem jm_ckm216_5 : jm_ckL 216 500 jm_cd216_5 = true := by decide +kernel
