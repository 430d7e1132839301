/-! THE LAW, in pieces -/
set_option maxRecDepth 100000 in
theorem jm_ckm216_6 : jm_ckL 216 600 jm_cd216_6 = true := by decide +kernel
set_option maxRecDepth 100000 in
theorem jm_ckm216_7 : jm_ckL 216 700 jm_cd216_7 = true := by decide +kernel
set_option maxRecDepth 100000 in
theorem jm_ckm216_8 : jm_ckL 216 800 jm_cd216_8 = true := by decide +kernel
