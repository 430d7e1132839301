/-! THE LAW'S OWN METHODS: a call of the class that may throw, caught -/
def jx_cap : List Cond := [.methodLink RX9 157 (Bundle.initS jx_N), .instantiable jx_N 6, .castable jx_N jx_N, .selects jx_N Bundle.tFill0 Bundle.tFill0, .selects jx_N Bundle.tFill Bundle.tFill, .lays jx_N Bundle.tN "cause" "Ljava/lang/Throwable;", .lays jx_N Bundle.tN "stackTrace" Bundle.steD, .lays jx_N Bundle.tN "suppressedExceptions" Bundle.listD, .lays jx_N Bundle.tN "detailMessage" "Ljava/lang/String;", .fieldLink Bundle.tN 198 Bundle.tN "backtrace" "Ljava/lang/Object;", .lays Bundle.tN Bundle.tN "backtrace" "Ljava/lang/Object;", .lays jx_N Bundle.tN "backtrace" "Ljava/lang/Object;", .classLink RX9 153 jx_N, .initialized jx_N]
set_option maxRecDepth 100000 in
theorem jx_a1 : ∀ w ∈ Bundle.throwableAtoms.filter vx_no, w ∈ lw_tbl := by decide +kernel
set_option maxRecDepth 100000 in
theorem jx_a2 : ∀ w ∈ Bundle.throwableSAtoms.filter vx_no, w ∈ lw_tbl := by decide +kernel
set_option maxRecDepth 100000 in
theorem jx_a3 : ∀ w ∈ Bundle.passSAtoms jx_N "java/lang/RuntimeException" 13 prog_27_method_4_code, w ∈ lw_tbl := by decide +kernel
set_option maxRecDepth 100000 in
theorem jx_a4 : ∀ w ∈ Bundle.chainSAtoms "java/lang/RuntimeException" ["java/lang/Exception"], w ∈ lw_tbl := by decide +kernel
set_option maxRecDepth 100000 in
theorem jx_a5 : ∀ w ∈ jx_cap, w ∈ lw_tbl := by decide +kernel
theorem jx_b1 : (Bundle.throwableAtoms.filter vx_no).all goodWord = true := by decide +kernel
theorem jx_b2 : (Bundle.throwableSAtoms.filter vx_no).all goodWord = true := by decide +kernel
theorem jx_b3 : (Bundle.passSAtoms jx_N "java/lang/RuntimeException" 13 prog_27_method_4_code).all (fun w => goodWord w || decide (w ∈ jx_Kw)) = true := by decide +kernel
theorem jx_b4 : (Bundle.chainSAtoms "java/lang/RuntimeException" ["java/lang/Exception"]).all (fun w => goodWord w || decide (w ∈ jx_Kw)) = true := by decide +kernel
theorem jx_b5 : jx_cap.all (fun w => goodWord w || decide (w ∈ jx_Kw)) = true := by decide +kernel
