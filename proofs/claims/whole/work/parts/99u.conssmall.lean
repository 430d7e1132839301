/-! CONSTRUCTORS: small ones -/
def jc_Nw : List Cond := [(.methodLinkNest "PlanarFlow$Net" 11 ⟨"PlanarFlow$Told", "<init>", "()V"⟩ "PlanarFlow"), (.methodLinkNest "PlanarFlow" 20 ⟨"PlanarFlow$Told", "<init>", "()V"⟩ "PlanarFlow"), (.methodLinkNest "PlanarFlow" 35 ⟨"PlanarFlow$Dual", "<init>", "()V"⟩ "PlanarFlow"), (.methodLinkNest "PlanarFlow" 42 ⟨"PlanarFlow$Routes", "<init>", "()V"⟩ "PlanarFlow"), (.methodLinkNest "PlanarFlow" 49 ⟨"PlanarFlow$Halves", "<init>", "()V"⟩ "PlanarFlow"), (.methodLinkNest "PlanarFlow" 56 ⟨"PlanarFlow$Stream", "<init>", "()V"⟩ "PlanarFlow"), (.methodLinkNest "PlanarFlow$Stream" 23 ⟨"PlanarFlow$Search", "<init>", "()V"⟩ "PlanarFlow"), (.methodLinkNest "PlanarFlow" 66 ⟨"PlanarFlow$Parting", "<init>", "()V"⟩ "PlanarFlow"), (.methodLinkNest "PlanarFlow" 73 ⟨"PlanarFlow$Tape", "<init>", "()V"⟩ "PlanarFlow")]
def jc_B (dC : Nat → ClassId) (dI : Nat → Nat → Nat) (cA : Nat → ClassId) (U : State) : Prop := va_K (dC, dI) vwCl (jm_tys cA) U ∧ (∀ w ∈ jc_Nw, va_Nw w U) ∧ va_AO RX8 U
theorem jc_Nw_all {P : Cond → Prop} (h : ∀ (a : String) (i : Nat) (x : MethodName) (b : String), Cond.methodLinkNest a i x b ∈ jc_Nw → P (.methodLinkNest a i x b)) : ∀ w ∈ jc_Nw, P w := by
  intro w hw
  have hw2 := hw
  simp only [jc_Nw, List.mem_cons, List.not_mem_nil, or_false] at hw2
  rcases hw2 with rfl | rfl | rfl | rfl | rfl | rfl | rfl | rfl | rfl <;> exact h _ _ _ _ hw
theorem jc_B_to {dC : Nat → ClassId} {dI : Nat → Nat → Nat} {cA : Nat → ClassId} {s U : State} (hW : s.WarmedH U.vm) (h : jc_B dC dI cA s) : jc_B dC dI cA U :=
  ⟨va_K.moved hW.alike h.1, jc_Nw_all (fun a i x b hw => va_Nw.warmM hW (h.2.1 _ hw)), va_AO.moved hW.alike h.2.2⟩
theorem jc_B_blind {dC : Nat → ClassId} {dI : Nat → Nat → Nat} {cA : Nat → ClassId} {U : State} {g : JFrame} {mk : MethodId} {x : Array Value} (h : jc_B dC dI cA U) : jc_B dC dI cA (U.calling g mk x) :=
  ⟨va_K.moved (u := U) (U := U.calling g mk x) (Vm.Alike.refl U.vm) h.1, jc_Nw_all (fun a i y b hw => va_Nw.same (u := U) rfl rfl (h.2.1 _ hw)), va_AO.moved (u := U) (U := U.calling g mk x) (Vm.Alike.refl U.vm) h.2.2⟩
set_option maxRecDepth 100000 in
theorem jcw_114 : lw_tbl[114]? = some (.initialized "PlanarFlow$Search") := rfl
set_option maxRecDepth 100000 in
theorem jcw_134 : lw_tbl[134]? = some (.instanceMethod Lib.objectInit) := rfl
set_option maxRecDepth 100000 in
theorem jcw_147 : lw_tbl[147]? = some (.methodLink RX8 3 Lib.objectInit) := rfl
set_option maxRecDepth 100000 in
theorem jcw_148 : lw_tbl[148]? = some (.fieldLink "PlanarFlow$Told" 9 "PlanarFlow$Told" "slants" "[I") := rfl
set_option maxRecDepth 100000 in
theorem jcw_151 : lw_tbl[151]? = some (.fieldLink "PlanarFlow$Told" 15 "PlanarFlow$Told" "forth" "[I") := rfl
set_option maxRecDepth 100000 in
theorem jcw_153 : lw_tbl[153]? = some (.fieldLink "PlanarFlow$Told" 18 "PlanarFlow$Told" "hither" "[I") := rfl
set_option maxRecDepth 100000 in
theorem jcw_155 : lw_tbl[155]? = some (.fieldLink "PlanarFlow$Told" 21 "PlanarFlow$Told" "supplies" "[I") := rfl
set_option maxRecDepth 100000 in
theorem jcw_158 : lw_tbl[158]? = some (.fieldLink "PlanarFlow$Told" 24 "PlanarFlow$Told" "w" "I") := rfl
set_option maxRecDepth 100000 in
theorem jcw_162 : lw_tbl[162]? = some (.fieldLink "PlanarFlow$Told" 28 "PlanarFlow$Told" "h" "I") := rfl
set_option maxRecDepth 100000 in
theorem jcw_179 : lw_tbl[179]? = some (.arrayClass .int) := rfl
set_option maxRecDepth 100000 in
theorem jcw_344 : lw_tbl[344]? = some (.methodLink RX0 3 Lib.objectInit) := rfl
set_option maxRecDepth 100000 in
theorem jcw_345 : lw_tbl[345]? = some (.fieldLink "PlanarFlow$Dual" 9 "PlanarFlow$Dual" "best" "[I") := rfl
set_option maxRecDepth 100000 in
theorem jcw_348 : lw_tbl[348]? = some (.fieldLink "PlanarFlow$Dual" 15 "PlanarFlow$Dual" "from" "[I") := rfl
set_option maxRecDepth 100000 in
theorem jcw_349 : lw_tbl[349]? = some (.fieldLink "PlanarFlow$Dual" 18 "PlanarFlow$Dual" "ringFaces" "[I") := rfl
set_option maxRecDepth 100000 in
theorem jcw_375 : lw_tbl[375]? = some (.methodLink RX4 5 Lib.objectInit) := rfl
set_option maxRecDepth 100000 in
theorem jcw_376 : lw_tbl[376]? = some (.fieldLink "PlanarFlow$Routes" 11 "PlanarFlow$Routes" "keys" "[I") := rfl
set_option maxRecDepth 100000 in
theorem jcw_385 : lw_tbl[385]? = some (.methodLink RX1 3 Lib.objectInit) := rfl
set_option maxRecDepth 100000 in
theorem jcw_386 : lw_tbl[386]? = some (.fieldLink "PlanarFlow$Halves" 9 "PlanarFlow$Halves" "best" "[I") := rfl
set_option maxRecDepth 100000 in
theorem jcw_387 : lw_tbl[387]? = some (.fieldLink "PlanarFlow$Halves" 15 "PlanarFlow$Halves" "isLeft" "[I") := rfl
set_option maxRecDepth 100000 in
theorem jcw_398 : lw_tbl[398]? = some (.methodLink RX6 3 Lib.objectInit) := rfl
set_option maxRecDepth 100000 in
theorem jcw_399 : lw_tbl[399]? = some (.classLink "PlanarFlow$Stream" 21 "PlanarFlow$Search") := rfl
set_option maxRecDepth 100000 in
theorem jcw_400 : lw_tbl[400]? = some (.instantiable "PlanarFlow$Search" 6) := rfl
set_option maxRecDepth 100000 in
theorem jcw_402 : lw_tbl[402]? = some (.instanceMethod ⟨"PlanarFlow$Search", "<init>", "()V"⟩) := rfl
set_option maxRecDepth 100000 in
theorem jcw_403 : lw_tbl[403]? = some (.code yX5_init cX5_init 1 none) := rfl
set_option maxRecDepth 100000 in
theorem jcw_404 : lw_tbl[404]? = some (.methodLink RX5 3 Lib.objectInit) := rfl
set_option maxRecDepth 100000 in
theorem jcw_405 : lw_tbl[405]? = some (.fieldLink "PlanarFlow$Search" 9 "PlanarFlow$Search" "seen" "[I") := rfl
set_option maxRecDepth 100000 in
theorem jcw_406 : lw_tbl[406]? = some (.fieldLink "PlanarFlow$Search" 15 "PlanarFlow$Search" "nodes" "[I") := rfl
set_option maxRecDepth 100000 in
theorem jcw_407 : lw_tbl[407]? = some (.fieldLink "PlanarFlow$Search" 18 "PlanarFlow$Search" "edges" "[I") := rfl
set_option maxRecDepth 100000 in
theorem jcw_408 : lw_tbl[408]? = some (.fieldLink "PlanarFlow$Search" 21 "PlanarFlow$Search" "firsts" "[I") := rfl
set_option maxRecDepth 100000 in
theorem jcw_409 : lw_tbl[409]? = some (.fieldLink "PlanarFlow$Search" 24 "PlanarFlow$Search" "tried" "[I") := rfl
set_option maxRecDepth 100000 in
theorem jcw_425 : lw_tbl[425]? = some (.fieldLink "PlanarFlow$Stream" 9 "PlanarFlow$Stream" "carried" "[I") := rfl
set_option maxRecDepth 100000 in
theorem jcw_427 : lw_tbl[427]? = some (.fieldLink "PlanarFlow$Stream" 15 "PlanarFlow$Stream" "given" "[I") := rfl
set_option maxRecDepth 100000 in
theorem jcw_429 : lw_tbl[429]? = some (.fieldLink "PlanarFlow$Stream" 18 "PlanarFlow$Stream" "wants" "[I") := rfl
set_option maxRecDepth 100000 in
theorem jcw_431 : lw_tbl[431]? = some (.fieldLink "PlanarFlow$Stream" 24 "PlanarFlow$Stream" "search" "LPlanarFlow$Search;") := rfl
set_option maxRecDepth 100000 in
theorem jcw_472 : lw_tbl[472]? = some (.methodLink RX3 3 Lib.objectInit) := rfl
set_option maxRecDepth 100000 in
theorem jcw_473 : lw_tbl[473]? = some (.fieldLink "PlanarFlow$Parting" 9 "PlanarFlow$Parting" "reached" "[I") := rfl
set_option maxRecDepth 100000 in
theorem jcw_474 : lw_tbl[474]? = some (.fieldLink "PlanarFlow$Parting" 15 "PlanarFlow$Parting" "roots" "[I") := rfl
set_option maxRecDepth 100000 in
theorem jcw_488 : lw_tbl[488]? = some (.methodLink RX7 3 Lib.objectInit) := rfl
set_option maxRecDepth 100000 in
theorem jcw_489 : lw_tbl[489]? = some (.fieldLink "PlanarFlow$Tape" 9 "PlanarFlow$Tape" "bytes" "[B") := rfl
set_option maxRecDepth 100000 in
theorem jcw_515 : lw_tbl[515]? = some (.arrayClass .byte) := rfl
set_option maxRecDepth 100000 in
theorem jcw_oc : lw_tbl[135]? = some (.code Lib.objectInit ⟨#[0xb1]⟩ 1 none) := rfl
theorem dX8_init_0 : decode cX8_init 0 = .ok (.aload_n 0, 1) := by decide +kernel
theorem dX8_init_1 : decode cX8_init 1 = .ok (.invokespecial 3, 3) := by decide +kernel
theorem dX8_init_4 : decode cX8_init 4 = .ok (.aload_n 0, 1) := by decide +kernel
theorem dX8_init_5 : decode cX8_init 5 = .ok (.bipush 36, 2) := by decide +kernel
theorem dX8_init_7 : decode cX8_init 7 = .ok (.newarray .int, 2) := by decide +kernel
theorem dX8_init_9 : decode cX8_init 9 = .ok (.putfield 9, 3) := by decide +kernel
theorem dX8_init_12 : decode cX8_init 12 = .ok (.aload_n 0, 1) := by decide +kernel
theorem dX8_init_13 : decode cX8_init 13 = .ok (.bipush 108, 2) := by decide +kernel
theorem dX8_init_15 : decode cX8_init 15 = .ok (.newarray .int, 2) := by decide +kernel
theorem dX8_init_17 : decode cX8_init 17 = .ok (.putfield 15, 3) := by decide +kernel
theorem dX8_init_20 : decode cX8_init 20 = .ok (.aload_n 0, 1) := by decide +kernel
theorem dX8_init_21 : decode cX8_init 21 = .ok (.bipush 108, 2) := by decide +kernel
theorem dX8_init_23 : decode cX8_init 23 = .ok (.newarray .int, 2) := by decide +kernel
theorem dX8_init_25 : decode cX8_init 25 = .ok (.putfield 18, 3) := by decide +kernel
theorem dX8_init_28 : decode cX8_init 28 = .ok (.aload_n 0, 1) := by decide +kernel
theorem dX8_init_29 : decode cX8_init 29 = .ok (.bipush 36, 2) := by decide +kernel
theorem dX8_init_31 : decode cX8_init 31 = .ok (.newarray .int, 2) := by decide +kernel
theorem dX8_init_33 : decode cX8_init 33 = .ok (.putfield 21, 3) := by decide +kernel
theorem dX8_init_36 : decode cX8_init 36 = .ok (.aload_n 0, 1) := by decide +kernel
theorem dX8_init_37 : decode cX8_init 37 = .ok (.iconst 3, 1) := by decide +kernel
theorem dX8_init_38 : decode cX8_init 38 = .ok (.putfield 24, 3) := by decide +kernel
theorem dX8_init_41 : decode cX8_init 41 = .ok (.aload_n 0, 1) := by decide +kernel
theorem dX8_init_42 : decode cX8_init 42 = .ok (.iconst 3, 1) := by decide +kernel
theorem dX8_init_43 : decode cX8_init 43 = .ok (.putfield 28, 3) := by decide +kernel
theorem dX8_init_46 : decode cX8_init 46 = .ok (.return_, 1) := by decide +kernel
theorem dX0_init_0 : decode cX0_init 0 = .ok (.aload_n 0, 1) := by decide +kernel
theorem dX0_init_1 : decode cX0_init 1 = .ok (.invokespecial 3, 3) := by decide +kernel
theorem dX0_init_4 : decode cX0_init 4 = .ok (.aload_n 0, 1) := by decide +kernel
theorem dX0_init_5 : decode cX0_init 5 = .ok (.bipush 73, 2) := by decide +kernel
theorem dX0_init_7 : decode cX0_init 7 = .ok (.newarray .int, 2) := by decide +kernel
theorem dX0_init_9 : decode cX0_init 9 = .ok (.putfield 9, 3) := by decide +kernel
theorem dX0_init_12 : decode cX0_init 12 = .ok (.aload_n 0, 1) := by decide +kernel
theorem dX0_init_13 : decode cX0_init 13 = .ok (.bipush 73, 2) := by decide +kernel
theorem dX0_init_15 : decode cX0_init 15 = .ok (.newarray .int, 2) := by decide +kernel
theorem dX0_init_17 : decode cX0_init 17 = .ok (.putfield 15, 3) := by decide +kernel
theorem dX0_init_20 : decode cX0_init 20 = .ok (.aload_n 0, 1) := by decide +kernel
theorem dX0_init_21 : decode cX0_init 21 = .ok (.bipush 73, 2) := by decide +kernel
theorem dX0_init_23 : decode cX0_init 23 = .ok (.newarray .int, 2) := by decide +kernel
theorem dX0_init_25 : decode cX0_init 25 = .ok (.putfield 18, 3) := by decide +kernel
theorem dX0_init_28 : decode cX0_init 28 = .ok (.return_, 1) := by decide +kernel
theorem dX1_init_0 : decode cX1_init 0 = .ok (.aload_n 0, 1) := by decide +kernel
theorem dX1_init_1 : decode cX1_init 1 = .ok (.invokespecial 3, 3) := by decide +kernel
theorem dX1_init_4 : decode cX1_init 4 = .ok (.aload_n 0, 1) := by decide +kernel
theorem dX1_init_5 : decode cX1_init 5 = .ok (.bipush 74, 2) := by decide +kernel
theorem dX1_init_7 : decode cX1_init 7 = .ok (.newarray .int, 2) := by decide +kernel
theorem dX1_init_9 : decode cX1_init 9 = .ok (.putfield 9, 3) := by decide +kernel
theorem dX1_init_12 : decode cX1_init 12 = .ok (.aload_n 0, 1) := by decide +kernel
theorem dX1_init_13 : decode cX1_init 13 = .ok (.bipush 108, 2) := by decide +kernel
theorem dX1_init_15 : decode cX1_init 15 = .ok (.newarray .int, 2) := by decide +kernel
theorem dX1_init_17 : decode cX1_init 17 = .ok (.putfield 15, 3) := by decide +kernel
theorem dX1_init_20 : decode cX1_init 20 = .ok (.return_, 1) := by decide +kernel
theorem dX3_init_0 : decode cX3_init 0 = .ok (.aload_n 0, 1) := by decide +kernel
theorem dX3_init_1 : decode cX3_init 1 = .ok (.invokespecial 3, 3) := by decide +kernel
theorem dX3_init_4 : decode cX3_init 4 = .ok (.aload_n 0, 1) := by decide +kernel
theorem dX3_init_5 : decode cX3_init 5 = .ok (.bipush 36, 2) := by decide +kernel
theorem dX3_init_7 : decode cX3_init 7 = .ok (.newarray .int, 2) := by decide +kernel
theorem dX3_init_9 : decode cX3_init 9 = .ok (.putfield 9, 3) := by decide +kernel
theorem dX3_init_12 : decode cX3_init 12 = .ok (.aload_n 0, 1) := by decide +kernel
theorem dX3_init_13 : decode cX3_init 13 = .ok (.bipush 73, 2) := by decide +kernel
theorem dX3_init_15 : decode cX3_init 15 = .ok (.newarray .int, 2) := by decide +kernel
theorem dX3_init_17 : decode cX3_init 17 = .ok (.putfield 15, 3) := by decide +kernel
theorem dX3_init_20 : decode cX3_init 20 = .ok (.return_, 1) := by decide +kernel
theorem dX4_init_0 : decode cX4_init 0 = .ok (.aload_n 0, 1) := by decide +kernel
theorem dX4_init_1 : decode cX4_init 1 = .ok (.invokespecial 5, 3) := by decide +kernel
theorem dX4_init_4 : decode cX4_init 4 = .ok (.aload_n 0, 1) := by decide +kernel
theorem dX4_init_5 : decode cX4_init 5 = .ok (.bipush 73, 2) := by decide +kernel
theorem dX4_init_7 : decode cX4_init 7 = .ok (.newarray .int, 2) := by decide +kernel
theorem dX4_init_9 : decode cX4_init 9 = .ok (.putfield 11, 3) := by decide +kernel
theorem dX4_init_12 : decode cX4_init 12 = .ok (.return_, 1) := by decide +kernel
theorem dX5_init_0 : decode cX5_init 0 = .ok (.aload_n 0, 1) := by decide +kernel
theorem dX5_init_1 : decode cX5_init 1 = .ok (.invokespecial 3, 3) := by decide +kernel
theorem dX5_init_4 : decode cX5_init 4 = .ok (.aload_n 0, 1) := by decide +kernel
theorem dX5_init_5 : decode cX5_init 5 = .ok (.bipush 36, 2) := by decide +kernel
theorem dX5_init_7 : decode cX5_init 7 = .ok (.newarray .int, 2) := by decide +kernel
theorem dX5_init_9 : decode cX5_init 9 = .ok (.putfield 9, 3) := by decide +kernel
theorem dX5_init_12 : decode cX5_init 12 = .ok (.aload_n 0, 1) := by decide +kernel
theorem dX5_init_13 : decode cX5_init 13 = .ok (.bipush 36, 2) := by decide +kernel
theorem dX5_init_15 : decode cX5_init 15 = .ok (.newarray .int, 2) := by decide +kernel
theorem dX5_init_17 : decode cX5_init 17 = .ok (.putfield 15, 3) := by decide +kernel
theorem dX5_init_20 : decode cX5_init 20 = .ok (.aload_n 0, 1) := by decide +kernel
theorem dX5_init_21 : decode cX5_init 21 = .ok (.bipush 36, 2) := by decide +kernel
theorem dX5_init_23 : decode cX5_init 23 = .ok (.newarray .int, 2) := by decide +kernel
theorem dX5_init_25 : decode cX5_init 25 = .ok (.putfield 18, 3) := by decide +kernel
theorem dX5_init_28 : decode cX5_init 28 = .ok (.aload_n 0, 1) := by decide +kernel
theorem dX5_init_29 : decode cX5_init 29 = .ok (.bipush 36, 2) := by decide +kernel
theorem dX5_init_31 : decode cX5_init 31 = .ok (.newarray .int, 2) := by decide +kernel
theorem dX5_init_33 : decode cX5_init 33 = .ok (.putfield 21, 3) := by decide +kernel
theorem dX5_init_36 : decode cX5_init 36 = .ok (.aload_n 0, 1) := by decide +kernel
theorem dX5_init_37 : decode cX5_init 37 = .ok (.bipush 36, 2) := by decide +kernel
theorem dX5_init_39 : decode cX5_init 39 = .ok (.newarray .int, 2) := by decide +kernel
theorem dX5_init_41 : decode cX5_init 41 = .ok (.putfield 24, 3) := by decide +kernel
theorem dX5_init_44 : decode cX5_init 44 = .ok (.return_, 1) := by decide +kernel
theorem dX6_init_0 : decode cX6_init 0 = .ok (.aload_n 0, 1) := by decide +kernel
theorem dX6_init_1 : decode cX6_init 1 = .ok (.invokespecial 3, 3) := by decide +kernel
theorem dX6_init_4 : decode cX6_init 4 = .ok (.aload_n 0, 1) := by decide +kernel
theorem dX6_init_5 : decode cX6_init 5 = .ok (.bipush 108, 2) := by decide +kernel
theorem dX6_init_7 : decode cX6_init 7 = .ok (.newarray .int, 2) := by decide +kernel
theorem dX6_init_9 : decode cX6_init 9 = .ok (.putfield 9, 3) := by decide +kernel
theorem dX6_init_12 : decode cX6_init 12 = .ok (.aload_n 0, 1) := by decide +kernel
theorem dX6_init_13 : decode cX6_init 13 = .ok (.bipush 36, 2) := by decide +kernel
theorem dX6_init_15 : decode cX6_init 15 = .ok (.newarray .int, 2) := by decide +kernel
theorem dX6_init_17 : decode cX6_init 17 = .ok (.putfield 15, 3) := by decide +kernel
theorem dX6_init_20 : decode cX6_init 20 = .ok (.aload_n 0, 1) := by decide +kernel
theorem dX6_init_21 : decode cX6_init 21 = .ok (.bipush 36, 2) := by decide +kernel
theorem dX6_init_23 : decode cX6_init 23 = .ok (.newarray .int, 2) := by decide +kernel
theorem dX6_init_25 : decode cX6_init 25 = .ok (.putfield 18, 3) := by decide +kernel
theorem dX6_init_28 : decode cX6_init 28 = .ok (.aload_n 0, 1) := by decide +kernel
theorem dX6_init_29 : decode cX6_init 29 = .ok (.new 21, 3) := by decide +kernel
theorem dX6_init_32 : decode cX6_init 32 = .ok (.dup, 1) := by decide +kernel
theorem dX6_init_33 : decode cX6_init 33 = .ok (.invokespecial 23, 3) := by decide +kernel
theorem dX6_init_36 : decode cX6_init 36 = .ok (.putfield 24, 3) := by decide +kernel
theorem dX6_init_39 : decode cX6_init 39 = .ok (.return_, 1) := by decide +kernel
theorem dX7_init_0 : decode cX7_init 0 = .ok (.aload_n 0, 1) := by decide +kernel
theorem dX7_init_1 : decode cX7_init 1 = .ok (.invokespecial 3, 3) := by decide +kernel
theorem dX7_init_4 : decode cX7_init 4 = .ok (.aload_n 0, 1) := by decide +kernel
theorem dX7_init_5 : decode cX7_init 5 = .ok (.sipush 600, 3) := by decide +kernel
theorem dX7_init_8 : decode cX7_init 8 = .ok (.newarray .byte, 2) := by decide +kernel
theorem dX7_init_10 : decode cX7_init 10 = .ok (.putfield 9, 3) := by decide +kernel
theorem dX7_init_13 : decode cX7_init 13 = .ok (.return_, 1) := by decide +kernel
/-- what the constructor of PlanarFlow.Told makes -/
def jw_8 (cA : Nat → ClassId) (h0 : Nat) (u : Nat → Nat) : va_W := [(h0, .inr (8, [.ref (u 0), .ref (u 1), .ref (u 2), .ref (u 3), .int 3, .int 3])), ((u 0), .inl (cA 0, 36, .inl (fun _ => 0))), ((u 1), .inl (cA 0, 108, .inl (fun _ => 0))), ((u 2), .inl (cA 0, 108, .inl (fun _ => 0))), ((u 3), .inl (cA 0, 36, .inl (fun _ => 0)))]
set_option maxHeartbeats 4000000 in
set_option maxRecDepth 100000 in
theorem jc_8 (l : Launch) (dC : Nat → ClassId) (dI : Nat → Nat → Nat) (cA : Nat → ClassId) (h0 sz : Nat) : Met l yX8_init (jc_ws yX8_init cX8_init 1) ({ frames := 1, cells := 4, slots := 288, locals := 12 }) (va_Pc [.ref h0] (fun U => U.heap.size = sz ∧ va_P (dC, dI) vwCl [(h0, .inr (8, [.null, .null, .null, .null, .int 0, .int 0]))] U.heap ∧ jc_B dC dI cA U ∧ va_D (fun _ => True) [(h0, .inr (8, [.null, .null, .null, .null, .int 0, .int 0]))])) (va_Qv (fun _ : Nat → Nat => True) (fun u t => va_P (dC, dI) vwCl (jw_8 cA h0 u) t.heap ∧ va_D (va_A [(h0, .inr (8, [.null, .null, .null, .null, .int 0, .int 0]))] sz) (jw_8 cA h0 u)) (va_A [(h0, .inr (8, [.null, .null, .null, .null, .int 0, .int 0]))] sz)) 4 288 (va_A [(h0, .inr (8, [.null, .null, .null, .null, .int 0, .int 0]))] sz) := by
  refine Met.ofW (cc := cX8_init) (maxL := 1) (ret := none) (by decide) rfl ?_
  intro p e s m args below meth c s₁ B hml hv
  obtain ⟨rfl, hsz, hP, hB, hD0⟩ := hv
  have hx := B.exec
  have hb := B.bytes
  have hr := B.returns
  have hts0 := atoms_spec (ws := jc_ws yX8_init cX8_init 1) B.pre
  have hts : ∀ w ∈ jm_g, w.before _ s = true := fun w h => hts0 w (List.mem_cons_of_mem _ h)
  have hown : s.vm.findClass RX8 = some m.cls := findClass_of_methodNamed B.named
  have hlocks := B.notSynchronized
  have hin : meth.name = "<init>" := (name_of_methodNamed B.named B.method).1
  have hK := hB.1
  subst hsz
  have hD := hD0.self (sz := s.heap.size)
  generalize hAe : va_A [(h0, .inr (8, [.null, .null, .null, .null, .int 0, .int 0]))] s.heap.size = A at hD ⊢
  have hA : ∀ q : Nat, s.heap.size ≤ q → A q := fun q h => by rw [← hAe]; exact Or.inr h
  have hS : va_S A s.heap s.heap [] := va_S.rf
  have hP : va_P (dC, dI) vwCl [(h0, .inr (8, [.null, .null, .null, .null, .int 0, .int 0]))] s.heap := hP
  have hl := lv_entry ([.ref h0]) (n := 1) (Nat.le_of_ble_eq_true rfl)
  rw [lg_entry_eq]
  generalize (lg_sl ([.ref h0]) ++ List.replicate (1 - (lg_sl ([.ref h0])).length) Slot.unset).toArray = ls at hl ⊢
  have hl : lv_has ls 1 [(0, .ref h0)] := hl
  refine lv_aload_n hx hb dX8_init_0 rfl (lv_at hl 0 rfl) ?_
  refine W.objInit hx hb hown (hts _ (jm_in_g 147 jcw_147 rfl)) (hts _ (jm_in_g 134 jcw_134 rfl)) (hts _ (jm_in_g 135 jcw_oc rfl)) rfl (by rw [hml]; exact hl.1) rfl dX8_init_1 (Nat.le_of_ble_eq_true rfl) (Nat.le_of_ble_eq_true rfl) ?_
  refine W.eq (g2 := F0 m 4 ls []) rfl ?_
  refine lv_aload_n hx hb dX8_init_4 rfl (lv_at hl 0 rfl) ?_
  refine lv_bipush (v := 36) hx hb dX8_init_5 rfl ?_
  refine jc_newa (atype := .int) (ty := .int) (N' := 36) (a0 := (36, .inl (fun _ => 0))) (cX := cA 0) hx hb (hts _ (jm_in_g 179 jcw_179 rfl)) rfl hK hP hD hS hA (fun _ => rfl) (by decide) rfl (Nat.le_of_ble_eq_true rfl) (Nat.le_of_ble_eq_true rfl) (Nat.le_of_ble_eq_true rfl) dX8_init_7 0 rfl (fun _ _ h1 h2 => Option.some.inj (h1.symm.trans h2)) (fun q1 H hP hD hS => ?_)
  have hP : va_P (dC, dI) vwCl [(h0, .inr (8, [.null, .null, .null, .null, .int 0, .int 0])), (q1, .inl (cA 0, 36, .inl (fun _ => 0)))] H := hP
  have hD : va_D A [(h0, .inr (8, [.null, .null, .null, .null, .int 0, .int 0])), (q1, .inl (cA 0, 36, .inl (fun _ => 0)))] := hD
  refine va_putF (D := (dC, dI)) (ci := 8) (v := .ref q1) (ty := (.array .int)) (C := RX8) (T := TX8) (N := 6) hx hb hts (jm_uws (ci := 8) (by decide)) tyX8 tyX8_ok nmX8 hown hK hP hD hS 0 rfl rfl 0 (by decide) (hts _ (jm_in_g 148 jcw_148 rfl)) (fun _ h9 => h9) rfl hin rfl (by decide +kernel) rfl rfl (Nat.le_of_ble_eq_true rfl) dX8_init_9 (fun H locs hP hD hS => ?_)
  have hP : va_P (dC, dI) vwCl [(h0, .inr (8, [.ref q1, .null, .null, .null, .int 0, .int 0])), (q1, .inl (cA 0, 36, .inl (fun _ => 0)))] H := hP
  have hD : va_D A [(h0, .inr (8, [.ref q1, .null, .null, .null, .int 0, .int 0])), (q1, .inl (cA 0, 36, .inl (fun _ => 0)))] := hD
  refine lv_aload_n hx hb dX8_init_12 rfl (lv_at hl 0 rfl) ?_
  refine lv_bipush (v := 108) hx hb dX8_init_13 rfl ?_
  refine jc_newa (atype := .int) (ty := .int) (N' := 108) (a0 := (108, .inl (fun _ => 0))) (cX := cA 0) hx hb (hts _ (jm_in_g 179 jcw_179 rfl)) rfl hK hP hD hS hA (fun _ => rfl) (by decide) rfl (Nat.le_of_ble_eq_true rfl) (Nat.le_of_ble_eq_true rfl) (Nat.le_of_ble_eq_true rfl) dX8_init_15 0 rfl (fun _ _ h1 h2 => Option.some.inj (h1.symm.trans h2)) (fun q2 H hP hD hS => ?_)
  have hP : va_P (dC, dI) vwCl [(h0, .inr (8, [.ref q1, .null, .null, .null, .int 0, .int 0])), (q1, .inl (cA 0, 36, .inl (fun _ => 0))), (q2, .inl (cA 0, 108, .inl (fun _ => 0)))] H := hP
  have hD : va_D A [(h0, .inr (8, [.ref q1, .null, .null, .null, .int 0, .int 0])), (q1, .inl (cA 0, 36, .inl (fun _ => 0))), (q2, .inl (cA 0, 108, .inl (fun _ => 0)))] := hD
  refine va_putF (D := (dC, dI)) (ci := 8) (v := .ref q2) (ty := (.array .int)) (C := RX8) (T := TX8) (N := 6) hx hb hts (jm_uws (ci := 8) (by decide)) tyX8 tyX8_ok nmX8 hown hK hP hD hS 0 rfl rfl 1 (by decide) (hts _ (jm_in_g 151 jcw_151 rfl)) (fun _ h9 => h9) rfl hin rfl (by decide +kernel) rfl rfl (Nat.le_of_ble_eq_true rfl) dX8_init_17 (fun H locs hP hD hS => ?_)
  have hP : va_P (dC, dI) vwCl [(h0, .inr (8, [.ref q1, .ref q2, .null, .null, .int 0, .int 0])), (q1, .inl (cA 0, 36, .inl (fun _ => 0))), (q2, .inl (cA 0, 108, .inl (fun _ => 0)))] H := hP
  have hD : va_D A [(h0, .inr (8, [.ref q1, .ref q2, .null, .null, .int 0, .int 0])), (q1, .inl (cA 0, 36, .inl (fun _ => 0))), (q2, .inl (cA 0, 108, .inl (fun _ => 0)))] := hD
  refine lv_aload_n hx hb dX8_init_20 rfl (lv_at hl 0 rfl) ?_
  refine lv_bipush (v := 108) hx hb dX8_init_21 rfl ?_
  refine jc_newa (atype := .int) (ty := .int) (N' := 108) (a0 := (108, .inl (fun _ => 0))) (cX := cA 0) hx hb (hts _ (jm_in_g 179 jcw_179 rfl)) rfl hK hP hD hS hA (fun _ => rfl) (by decide) rfl (Nat.le_of_ble_eq_true rfl) (Nat.le_of_ble_eq_true rfl) (Nat.le_of_ble_eq_true rfl) dX8_init_23 0 rfl (fun _ _ h1 h2 => Option.some.inj (h1.symm.trans h2)) (fun q3 H hP hD hS => ?_)
  have hP : va_P (dC, dI) vwCl [(h0, .inr (8, [.ref q1, .ref q2, .null, .null, .int 0, .int 0])), (q1, .inl (cA 0, 36, .inl (fun _ => 0))), (q2, .inl (cA 0, 108, .inl (fun _ => 0))), (q3, .inl (cA 0, 108, .inl (fun _ => 0)))] H := hP
  have hD : va_D A [(h0, .inr (8, [.ref q1, .ref q2, .null, .null, .int 0, .int 0])), (q1, .inl (cA 0, 36, .inl (fun _ => 0))), (q2, .inl (cA 0, 108, .inl (fun _ => 0))), (q3, .inl (cA 0, 108, .inl (fun _ => 0)))] := hD
  refine va_putF (D := (dC, dI)) (ci := 8) (v := .ref q3) (ty := (.array .int)) (C := RX8) (T := TX8) (N := 6) hx hb hts (jm_uws (ci := 8) (by decide)) tyX8 tyX8_ok nmX8 hown hK hP hD hS 0 rfl rfl 2 (by decide) (hts _ (jm_in_g 153 jcw_153 rfl)) (fun _ h9 => h9) rfl hin rfl (by decide +kernel) rfl rfl (Nat.le_of_ble_eq_true rfl) dX8_init_25 (fun H locs hP hD hS => ?_)
  have hP : va_P (dC, dI) vwCl [(h0, .inr (8, [.ref q1, .ref q2, .ref q3, .null, .int 0, .int 0])), (q1, .inl (cA 0, 36, .inl (fun _ => 0))), (q2, .inl (cA 0, 108, .inl (fun _ => 0))), (q3, .inl (cA 0, 108, .inl (fun _ => 0)))] H := hP
  have hD : va_D A [(h0, .inr (8, [.ref q1, .ref q2, .ref q3, .null, .int 0, .int 0])), (q1, .inl (cA 0, 36, .inl (fun _ => 0))), (q2, .inl (cA 0, 108, .inl (fun _ => 0))), (q3, .inl (cA 0, 108, .inl (fun _ => 0)))] := hD
  refine lv_aload_n hx hb dX8_init_28 rfl (lv_at hl 0 rfl) ?_
  refine lv_bipush (v := 36) hx hb dX8_init_29 rfl ?_
  refine jc_newa (atype := .int) (ty := .int) (N' := 36) (a0 := (36, .inl (fun _ => 0))) (cX := cA 0) hx hb (hts _ (jm_in_g 179 jcw_179 rfl)) rfl hK hP hD hS hA (fun _ => rfl) (by decide) rfl (Nat.le_of_ble_eq_true rfl) (Nat.le_of_ble_eq_true rfl) (Nat.le_of_ble_eq_true rfl) dX8_init_31 0 rfl (fun _ _ h1 h2 => Option.some.inj (h1.symm.trans h2)) (fun q4 H hP hD hS => ?_)
  have hP : va_P (dC, dI) vwCl [(h0, .inr (8, [.ref q1, .ref q2, .ref q3, .null, .int 0, .int 0])), (q1, .inl (cA 0, 36, .inl (fun _ => 0))), (q2, .inl (cA 0, 108, .inl (fun _ => 0))), (q3, .inl (cA 0, 108, .inl (fun _ => 0))), (q4, .inl (cA 0, 36, .inl (fun _ => 0)))] H := hP
  have hD : va_D A [(h0, .inr (8, [.ref q1, .ref q2, .ref q3, .null, .int 0, .int 0])), (q1, .inl (cA 0, 36, .inl (fun _ => 0))), (q2, .inl (cA 0, 108, .inl (fun _ => 0))), (q3, .inl (cA 0, 108, .inl (fun _ => 0))), (q4, .inl (cA 0, 36, .inl (fun _ => 0)))] := hD
  refine va_putF (D := (dC, dI)) (ci := 8) (v := .ref q4) (ty := (.array .int)) (C := RX8) (T := TX8) (N := 6) hx hb hts (jm_uws (ci := 8) (by decide)) tyX8 tyX8_ok nmX8 hown hK hP hD hS 0 rfl rfl 3 (by decide) (hts _ (jm_in_g 155 jcw_155 rfl)) (fun _ h9 => h9) rfl hin rfl (by decide +kernel) rfl rfl (Nat.le_of_ble_eq_true rfl) dX8_init_33 (fun H locs hP hD hS => ?_)
  have hP : va_P (dC, dI) vwCl [(h0, .inr (8, [.ref q1, .ref q2, .ref q3, .ref q4, .int 0, .int 0])), (q1, .inl (cA 0, 36, .inl (fun _ => 0))), (q2, .inl (cA 0, 108, .inl (fun _ => 0))), (q3, .inl (cA 0, 108, .inl (fun _ => 0))), (q4, .inl (cA 0, 36, .inl (fun _ => 0)))] H := hP
  have hD : va_D A [(h0, .inr (8, [.ref q1, .ref q2, .ref q3, .ref q4, .int 0, .int 0])), (q1, .inl (cA 0, 36, .inl (fun _ => 0))), (q2, .inl (cA 0, 108, .inl (fun _ => 0))), (q3, .inl (cA 0, 108, .inl (fun _ => 0))), (q4, .inl (cA 0, 36, .inl (fun _ => 0)))] := hD
  refine lv_aload_n hx hb dX8_init_36 rfl (lv_at hl 0 rfl) ?_
  refine lv_iconst (v := 3) hx hb dX8_init_37 rfl ?_
  refine va_put (D := (dC, dI)) (ci := 8) (v := .int 3) (ty := .int) (C := RX8) (T := TX8) (N := 6) hx hb hts (jm_uws (ci := 8) (by decide)) tyX8 tyX8_ok nmX8 hown hK hP hD hS 0 rfl rfl 4 (by decide) (hts _ (jm_in_g 158 jcw_158 rfl)) (fun _ h9 => h9) rfl (by decide +kernel) rfl rfl (Nat.le_of_ble_eq_true rfl) dX8_init_38 (fun H locs hP hD hS => ?_)
  have hP : va_P (dC, dI) vwCl [(h0, .inr (8, [.ref q1, .ref q2, .ref q3, .ref q4, .int 3, .int 0])), (q1, .inl (cA 0, 36, .inl (fun _ => 0))), (q2, .inl (cA 0, 108, .inl (fun _ => 0))), (q3, .inl (cA 0, 108, .inl (fun _ => 0))), (q4, .inl (cA 0, 36, .inl (fun _ => 0)))] H := hP
  have hD : va_D A [(h0, .inr (8, [.ref q1, .ref q2, .ref q3, .ref q4, .int 3, .int 0])), (q1, .inl (cA 0, 36, .inl (fun _ => 0))), (q2, .inl (cA 0, 108, .inl (fun _ => 0))), (q3, .inl (cA 0, 108, .inl (fun _ => 0))), (q4, .inl (cA 0, 36, .inl (fun _ => 0)))] := hD
  refine lv_aload_n hx hb dX8_init_41 rfl (lv_at hl 0 rfl) ?_
  refine lv_iconst (v := 3) hx hb dX8_init_42 rfl ?_
  refine va_put (D := (dC, dI)) (ci := 8) (v := .int 3) (ty := .int) (C := RX8) (T := TX8) (N := 6) hx hb hts (jm_uws (ci := 8) (by decide)) tyX8 tyX8_ok nmX8 hown hK hP hD hS 0 rfl rfl 5 (by decide) (hts _ (jm_in_g 162 jcw_162 rfl)) (fun _ h9 => h9) rfl (by decide +kernel) rfl rfl (Nat.le_of_ble_eq_true rfl) dX8_init_43 (fun H locs hP hD hS => ?_)
  have hP : va_P (dC, dI) vwCl [(h0, .inr (8, [.ref q1, .ref q2, .ref q3, .ref q4, .int 3, .int 3])), (q1, .inl (cA 0, 36, .inl (fun _ => 0))), (q2, .inl (cA 0, 108, .inl (fun _ => 0))), (q3, .inl (cA 0, 108, .inl (fun _ => 0))), (q4, .inl (cA 0, 36, .inl (fun _ => 0)))] H := hP
  have hD : va_D A [(h0, .inr (8, [.ref q1, .ref q2, .ref q3, .ref q4, .int 3, .int 3])), (q1, .inl (cA 0, 36, .inl (fun _ => 0))), (q2, .inl (cA 0, 108, .inl (fun _ => 0))), (q3, .inl (cA 0, 108, .inl (fun _ => 0))), (q4, .inl (cA 0, 36, .inl (fun _ => 0)))] := hD
  refine W.widen (k := 4) (n := 288) (Nat.le_of_ble_eq_true rfl) (Nat.le_of_ble_eq_true rfl) ?_
  exact W.vret hx hb hr (fun t ht hW => ⟨⟨(fun k => match k with | 0 => q1 | 1 => q2 | 2 => q3 | 3 => q4 | _ => 0), rfl, trivial, by rw [ht]; exact hP, hD⟩, hS.F ht⟩) hS.2.2 dX8_init_46
/-- what the constructor of PlanarFlow.Dual makes -/
def jw_0 (cA : Nat → ClassId) (h0 : Nat) (u : Nat → Nat) : va_W := [(h0, .inr (0, [.ref (u 0), .ref (u 1), .ref (u 2), .int 0, .int 0, .int 0])), ((u 0), .inl (cA 0, 73, .inl (fun _ => 0))), ((u 1), .inl (cA 0, 73, .inl (fun _ => 0))), ((u 2), .inl (cA 0, 73, .inl (fun _ => 0)))]
set_option maxHeartbeats 4000000 in
set_option maxRecDepth 100000 in
theorem jc_0 (l : Launch) (dC : Nat → ClassId) (dI : Nat → Nat → Nat) (cA : Nat → ClassId) (h0 sz : Nat) : Met l yX0_init (jc_ws yX0_init cX0_init 1) ({ frames := 1, cells := 3, slots := 219, locals := 12 }) (va_Pc [.ref h0] (fun U => U.heap.size = sz ∧ va_P (dC, dI) vwCl [(h0, .inr (0, [.null, .null, .null, .int 0, .int 0, .int 0]))] U.heap ∧ jc_B dC dI cA U ∧ va_D (fun _ => True) [(h0, .inr (0, [.null, .null, .null, .int 0, .int 0, .int 0]))])) (va_Qv (fun _ : Nat → Nat => True) (fun u t => va_P (dC, dI) vwCl (jw_0 cA h0 u) t.heap ∧ va_D (va_A [(h0, .inr (0, [.null, .null, .null, .int 0, .int 0, .int 0]))] sz) (jw_0 cA h0 u)) (va_A [(h0, .inr (0, [.null, .null, .null, .int 0, .int 0, .int 0]))] sz)) 3 219 (va_A [(h0, .inr (0, [.null, .null, .null, .int 0, .int 0, .int 0]))] sz) := by
  refine Met.ofW (cc := cX0_init) (maxL := 1) (ret := none) (by decide) rfl ?_
  intro p e s m args below meth c s₁ B hml hv
  obtain ⟨rfl, hsz, hP, hB, hD0⟩ := hv
  have hx := B.exec
  have hb := B.bytes
  have hr := B.returns
  have hts0 := atoms_spec (ws := jc_ws yX0_init cX0_init 1) B.pre
  have hts : ∀ w ∈ jm_g, w.before _ s = true := fun w h => hts0 w (List.mem_cons_of_mem _ h)
  have hown : s.vm.findClass RX0 = some m.cls := findClass_of_methodNamed B.named
  have hlocks := B.notSynchronized
  have hin : meth.name = "<init>" := (name_of_methodNamed B.named B.method).1
  have hK := hB.1
  subst hsz
  have hD := hD0.self (sz := s.heap.size)
  generalize hAe : va_A [(h0, .inr (0, [.null, .null, .null, .int 0, .int 0, .int 0]))] s.heap.size = A at hD ⊢
  have hA : ∀ q : Nat, s.heap.size ≤ q → A q := fun q h => by rw [← hAe]; exact Or.inr h
  have hS : va_S A s.heap s.heap [] := va_S.rf
  have hP : va_P (dC, dI) vwCl [(h0, .inr (0, [.null, .null, .null, .int 0, .int 0, .int 0]))] s.heap := hP
  have hl := lv_entry ([.ref h0]) (n := 1) (Nat.le_of_ble_eq_true rfl)
  rw [lg_entry_eq]
  generalize (lg_sl ([.ref h0]) ++ List.replicate (1 - (lg_sl ([.ref h0])).length) Slot.unset).toArray = ls at hl ⊢
  have hl : lv_has ls 1 [(0, .ref h0)] := hl
  refine lv_aload_n hx hb dX0_init_0 rfl (lv_at hl 0 rfl) ?_
  refine W.objInit hx hb hown (hts _ (jm_in_g 344 jcw_344 rfl)) (hts _ (jm_in_g 134 jcw_134 rfl)) (hts _ (jm_in_g 135 jcw_oc rfl)) rfl (by rw [hml]; exact hl.1) rfl dX0_init_1 (Nat.le_of_ble_eq_true rfl) (Nat.le_of_ble_eq_true rfl) ?_
  refine W.eq (g2 := F0 m 4 ls []) rfl ?_
  refine lv_aload_n hx hb dX0_init_4 rfl (lv_at hl 0 rfl) ?_
  refine lv_bipush (v := 73) hx hb dX0_init_5 rfl ?_
  refine jc_newa (atype := .int) (ty := .int) (N' := 73) (a0 := (73, .inl (fun _ => 0))) (cX := cA 0) hx hb (hts _ (jm_in_g 179 jcw_179 rfl)) rfl hK hP hD hS hA (fun _ => rfl) (by decide) rfl (Nat.le_of_ble_eq_true rfl) (Nat.le_of_ble_eq_true rfl) (Nat.le_of_ble_eq_true rfl) dX0_init_7 0 rfl (fun _ _ h1 h2 => Option.some.inj (h1.symm.trans h2)) (fun q1 H hP hD hS => ?_)
  have hP : va_P (dC, dI) vwCl [(h0, .inr (0, [.null, .null, .null, .int 0, .int 0, .int 0])), (q1, .inl (cA 0, 73, .inl (fun _ => 0)))] H := hP
  have hD : va_D A [(h0, .inr (0, [.null, .null, .null, .int 0, .int 0, .int 0])), (q1, .inl (cA 0, 73, .inl (fun _ => 0)))] := hD
  refine va_putF (D := (dC, dI)) (ci := 0) (v := .ref q1) (ty := (.array .int)) (C := RX0) (T := TX0) (N := 6) hx hb hts (jm_uws (ci := 0) (by decide)) tyX0 tyX0_ok nmX0 hown hK hP hD hS 0 rfl rfl 0 (by decide) (hts _ (jm_in_g 345 jcw_345 rfl)) (fun _ h9 => h9) rfl hin rfl (by decide +kernel) rfl rfl (Nat.le_of_ble_eq_true rfl) dX0_init_9 (fun H locs hP hD hS => ?_)
  have hP : va_P (dC, dI) vwCl [(h0, .inr (0, [.ref q1, .null, .null, .int 0, .int 0, .int 0])), (q1, .inl (cA 0, 73, .inl (fun _ => 0)))] H := hP
  have hD : va_D A [(h0, .inr (0, [.ref q1, .null, .null, .int 0, .int 0, .int 0])), (q1, .inl (cA 0, 73, .inl (fun _ => 0)))] := hD
  refine lv_aload_n hx hb dX0_init_12 rfl (lv_at hl 0 rfl) ?_
  refine lv_bipush (v := 73) hx hb dX0_init_13 rfl ?_
  refine jc_newa (atype := .int) (ty := .int) (N' := 73) (a0 := (73, .inl (fun _ => 0))) (cX := cA 0) hx hb (hts _ (jm_in_g 179 jcw_179 rfl)) rfl hK hP hD hS hA (fun _ => rfl) (by decide) rfl (Nat.le_of_ble_eq_true rfl) (Nat.le_of_ble_eq_true rfl) (Nat.le_of_ble_eq_true rfl) dX0_init_15 0 rfl (fun _ _ h1 h2 => Option.some.inj (h1.symm.trans h2)) (fun q2 H hP hD hS => ?_)
  have hP : va_P (dC, dI) vwCl [(h0, .inr (0, [.ref q1, .null, .null, .int 0, .int 0, .int 0])), (q1, .inl (cA 0, 73, .inl (fun _ => 0))), (q2, .inl (cA 0, 73, .inl (fun _ => 0)))] H := hP
  have hD : va_D A [(h0, .inr (0, [.ref q1, .null, .null, .int 0, .int 0, .int 0])), (q1, .inl (cA 0, 73, .inl (fun _ => 0))), (q2, .inl (cA 0, 73, .inl (fun _ => 0)))] := hD
  refine va_putF (D := (dC, dI)) (ci := 0) (v := .ref q2) (ty := (.array .int)) (C := RX0) (T := TX0) (N := 6) hx hb hts (jm_uws (ci := 0) (by decide)) tyX0 tyX0_ok nmX0 hown hK hP hD hS 0 rfl rfl 1 (by decide) (hts _ (jm_in_g 348 jcw_348 rfl)) (fun _ h9 => h9) rfl hin rfl (by decide +kernel) rfl rfl (Nat.le_of_ble_eq_true rfl) dX0_init_17 (fun H locs hP hD hS => ?_)
  have hP : va_P (dC, dI) vwCl [(h0, .inr (0, [.ref q1, .ref q2, .null, .int 0, .int 0, .int 0])), (q1, .inl (cA 0, 73, .inl (fun _ => 0))), (q2, .inl (cA 0, 73, .inl (fun _ => 0)))] H := hP
  have hD : va_D A [(h0, .inr (0, [.ref q1, .ref q2, .null, .int 0, .int 0, .int 0])), (q1, .inl (cA 0, 73, .inl (fun _ => 0))), (q2, .inl (cA 0, 73, .inl (fun _ => 0)))] := hD
  refine lv_aload_n hx hb dX0_init_20 rfl (lv_at hl 0 rfl) ?_
  refine lv_bipush (v := 73) hx hb dX0_init_21 rfl ?_
  refine jc_newa (atype := .int) (ty := .int) (N' := 73) (a0 := (73, .inl (fun _ => 0))) (cX := cA 0) hx hb (hts _ (jm_in_g 179 jcw_179 rfl)) rfl hK hP hD hS hA (fun _ => rfl) (by decide) rfl (Nat.le_of_ble_eq_true rfl) (Nat.le_of_ble_eq_true rfl) (Nat.le_of_ble_eq_true rfl) dX0_init_23 0 rfl (fun _ _ h1 h2 => Option.some.inj (h1.symm.trans h2)) (fun q3 H hP hD hS => ?_)
  have hP : va_P (dC, dI) vwCl [(h0, .inr (0, [.ref q1, .ref q2, .null, .int 0, .int 0, .int 0])), (q1, .inl (cA 0, 73, .inl (fun _ => 0))), (q2, .inl (cA 0, 73, .inl (fun _ => 0))), (q3, .inl (cA 0, 73, .inl (fun _ => 0)))] H := hP
  have hD : va_D A [(h0, .inr (0, [.ref q1, .ref q2, .null, .int 0, .int 0, .int 0])), (q1, .inl (cA 0, 73, .inl (fun _ => 0))), (q2, .inl (cA 0, 73, .inl (fun _ => 0))), (q3, .inl (cA 0, 73, .inl (fun _ => 0)))] := hD
  refine va_putF (D := (dC, dI)) (ci := 0) (v := .ref q3) (ty := (.array .int)) (C := RX0) (T := TX0) (N := 6) hx hb hts (jm_uws (ci := 0) (by decide)) tyX0 tyX0_ok nmX0 hown hK hP hD hS 0 rfl rfl 2 (by decide) (hts _ (jm_in_g 349 jcw_349 rfl)) (fun _ h9 => h9) rfl hin rfl (by decide +kernel) rfl rfl (Nat.le_of_ble_eq_true rfl) dX0_init_25 (fun H locs hP hD hS => ?_)
  have hP : va_P (dC, dI) vwCl [(h0, .inr (0, [.ref q1, .ref q2, .ref q3, .int 0, .int 0, .int 0])), (q1, .inl (cA 0, 73, .inl (fun _ => 0))), (q2, .inl (cA 0, 73, .inl (fun _ => 0))), (q3, .inl (cA 0, 73, .inl (fun _ => 0)))] H := hP
  have hD : va_D A [(h0, .inr (0, [.ref q1, .ref q2, .ref q3, .int 0, .int 0, .int 0])), (q1, .inl (cA 0, 73, .inl (fun _ => 0))), (q2, .inl (cA 0, 73, .inl (fun _ => 0))), (q3, .inl (cA 0, 73, .inl (fun _ => 0)))] := hD
  refine W.widen (k := 3) (n := 219) (Nat.le_of_ble_eq_true rfl) (Nat.le_of_ble_eq_true rfl) ?_
  exact W.vret hx hb hr (fun t ht hW => ⟨⟨(fun k => match k with | 0 => q1 | 1 => q2 | 2 => q3 | _ => 0), rfl, trivial, by rw [ht]; exact hP, hD⟩, hS.F ht⟩) hS.2.2 dX0_init_28
/-- what the constructor of PlanarFlow.Halves makes -/
def jw_1 (cA : Nat → ClassId) (h0 : Nat) (u : Nat → Nat) : va_W := [(h0, .inr (1, [.ref (u 0), .ref (u 1)])), ((u 0), .inl (cA 0, 74, .inl (fun _ => 0))), ((u 1), .inl (cA 0, 108, .inl (fun _ => 0)))]
set_option maxHeartbeats 4000000 in
set_option maxRecDepth 100000 in
theorem jc_1 (l : Launch) (dC : Nat → ClassId) (dI : Nat → Nat → Nat) (cA : Nat → ClassId) (h0 sz : Nat) : Met l yX1_init (jc_ws yX1_init cX1_init 1) ({ frames := 1, cells := 2, slots := 182, locals := 12 }) (va_Pc [.ref h0] (fun U => U.heap.size = sz ∧ va_P (dC, dI) vwCl [(h0, .inr (1, [.null, .null]))] U.heap ∧ jc_B dC dI cA U ∧ va_D (fun _ => True) [(h0, .inr (1, [.null, .null]))])) (va_Qv (fun _ : Nat → Nat => True) (fun u t => va_P (dC, dI) vwCl (jw_1 cA h0 u) t.heap ∧ va_D (va_A [(h0, .inr (1, [.null, .null]))] sz) (jw_1 cA h0 u)) (va_A [(h0, .inr (1, [.null, .null]))] sz)) 2 182 (va_A [(h0, .inr (1, [.null, .null]))] sz) := by
  refine Met.ofW (cc := cX1_init) (maxL := 1) (ret := none) (by decide) rfl ?_
  intro p e s m args below meth c s₁ B hml hv
  obtain ⟨rfl, hsz, hP, hB, hD0⟩ := hv
  have hx := B.exec
  have hb := B.bytes
  have hr := B.returns
  have hts0 := atoms_spec (ws := jc_ws yX1_init cX1_init 1) B.pre
  have hts : ∀ w ∈ jm_g, w.before _ s = true := fun w h => hts0 w (List.mem_cons_of_mem _ h)
  have hown : s.vm.findClass RX1 = some m.cls := findClass_of_methodNamed B.named
  have hlocks := B.notSynchronized
  have hin : meth.name = "<init>" := (name_of_methodNamed B.named B.method).1
  have hK := hB.1
  subst hsz
  have hD := hD0.self (sz := s.heap.size)
  generalize hAe : va_A [(h0, .inr (1, [.null, .null]))] s.heap.size = A at hD ⊢
  have hA : ∀ q : Nat, s.heap.size ≤ q → A q := fun q h => by rw [← hAe]; exact Or.inr h
  have hS : va_S A s.heap s.heap [] := va_S.rf
  have hP : va_P (dC, dI) vwCl [(h0, .inr (1, [.null, .null]))] s.heap := hP
  have hl := lv_entry ([.ref h0]) (n := 1) (Nat.le_of_ble_eq_true rfl)
  rw [lg_entry_eq]
  generalize (lg_sl ([.ref h0]) ++ List.replicate (1 - (lg_sl ([.ref h0])).length) Slot.unset).toArray = ls at hl ⊢
  have hl : lv_has ls 1 [(0, .ref h0)] := hl
  refine lv_aload_n hx hb dX1_init_0 rfl (lv_at hl 0 rfl) ?_
  refine W.objInit hx hb hown (hts _ (jm_in_g 385 jcw_385 rfl)) (hts _ (jm_in_g 134 jcw_134 rfl)) (hts _ (jm_in_g 135 jcw_oc rfl)) rfl (by rw [hml]; exact hl.1) rfl dX1_init_1 (Nat.le_of_ble_eq_true rfl) (Nat.le_of_ble_eq_true rfl) ?_
  refine W.eq (g2 := F0 m 4 ls []) rfl ?_
  refine lv_aload_n hx hb dX1_init_4 rfl (lv_at hl 0 rfl) ?_
  refine lv_bipush (v := 74) hx hb dX1_init_5 rfl ?_
  refine jc_newa (atype := .int) (ty := .int) (N' := 74) (a0 := (74, .inl (fun _ => 0))) (cX := cA 0) hx hb (hts _ (jm_in_g 179 jcw_179 rfl)) rfl hK hP hD hS hA (fun _ => rfl) (by decide) rfl (Nat.le_of_ble_eq_true rfl) (Nat.le_of_ble_eq_true rfl) (Nat.le_of_ble_eq_true rfl) dX1_init_7 0 rfl (fun _ _ h1 h2 => Option.some.inj (h1.symm.trans h2)) (fun q1 H hP hD hS => ?_)
  have hP : va_P (dC, dI) vwCl [(h0, .inr (1, [.null, .null])), (q1, .inl (cA 0, 74, .inl (fun _ => 0)))] H := hP
  have hD : va_D A [(h0, .inr (1, [.null, .null])), (q1, .inl (cA 0, 74, .inl (fun _ => 0)))] := hD
  refine va_putF (D := (dC, dI)) (ci := 1) (v := .ref q1) (ty := (.array .int)) (C := RX1) (T := TX1) (N := 2) hx hb hts (jm_uws (ci := 1) (by decide)) tyX1 tyX1_ok nmX1 hown hK hP hD hS 0 rfl rfl 0 (by decide) (hts _ (jm_in_g 386 jcw_386 rfl)) (fun _ h9 => h9) rfl hin rfl (by decide +kernel) rfl rfl (Nat.le_of_ble_eq_true rfl) dX1_init_9 (fun H locs hP hD hS => ?_)
  have hP : va_P (dC, dI) vwCl [(h0, .inr (1, [.ref q1, .null])), (q1, .inl (cA 0, 74, .inl (fun _ => 0)))] H := hP
  have hD : va_D A [(h0, .inr (1, [.ref q1, .null])), (q1, .inl (cA 0, 74, .inl (fun _ => 0)))] := hD
  refine lv_aload_n hx hb dX1_init_12 rfl (lv_at hl 0 rfl) ?_
  refine lv_bipush (v := 108) hx hb dX1_init_13 rfl ?_
  refine jc_newa (atype := .int) (ty := .int) (N' := 108) (a0 := (108, .inl (fun _ => 0))) (cX := cA 0) hx hb (hts _ (jm_in_g 179 jcw_179 rfl)) rfl hK hP hD hS hA (fun _ => rfl) (by decide) rfl (Nat.le_of_ble_eq_true rfl) (Nat.le_of_ble_eq_true rfl) (Nat.le_of_ble_eq_true rfl) dX1_init_15 0 rfl (fun _ _ h1 h2 => Option.some.inj (h1.symm.trans h2)) (fun q2 H hP hD hS => ?_)
  have hP : va_P (dC, dI) vwCl [(h0, .inr (1, [.ref q1, .null])), (q1, .inl (cA 0, 74, .inl (fun _ => 0))), (q2, .inl (cA 0, 108, .inl (fun _ => 0)))] H := hP
  have hD : va_D A [(h0, .inr (1, [.ref q1, .null])), (q1, .inl (cA 0, 74, .inl (fun _ => 0))), (q2, .inl (cA 0, 108, .inl (fun _ => 0)))] := hD
  refine va_putF (D := (dC, dI)) (ci := 1) (v := .ref q2) (ty := (.array .int)) (C := RX1) (T := TX1) (N := 2) hx hb hts (jm_uws (ci := 1) (by decide)) tyX1 tyX1_ok nmX1 hown hK hP hD hS 0 rfl rfl 1 (by decide) (hts _ (jm_in_g 387 jcw_387 rfl)) (fun _ h9 => h9) rfl hin rfl (by decide +kernel) rfl rfl (Nat.le_of_ble_eq_true rfl) dX1_init_17 (fun H locs hP hD hS => ?_)
  have hP : va_P (dC, dI) vwCl [(h0, .inr (1, [.ref q1, .ref q2])), (q1, .inl (cA 0, 74, .inl (fun _ => 0))), (q2, .inl (cA 0, 108, .inl (fun _ => 0)))] H := hP
  have hD : va_D A [(h0, .inr (1, [.ref q1, .ref q2])), (q1, .inl (cA 0, 74, .inl (fun _ => 0))), (q2, .inl (cA 0, 108, .inl (fun _ => 0)))] := hD
  refine W.widen (k := 2) (n := 182) (Nat.le_of_ble_eq_true rfl) (Nat.le_of_ble_eq_true rfl) ?_
  exact W.vret hx hb hr (fun t ht hW => ⟨⟨(fun k => match k with | 0 => q1 | 1 => q2 | _ => 0), rfl, trivial, by rw [ht]; exact hP, hD⟩, hS.F ht⟩) hS.2.2 dX1_init_20
/-- what the constructor of PlanarFlow.Parting makes -/
def jw_3 (cA : Nat → ClassId) (h0 : Nat) (u : Nat → Nat) : va_W := [(h0, .inr (3, [.ref (u 0), .ref (u 1), .int 0])), ((u 0), .inl (cA 0, 36, .inl (fun _ => 0))), ((u 1), .inl (cA 0, 73, .inl (fun _ => 0)))]
set_option maxHeartbeats 4000000 in
set_option maxRecDepth 100000 in
theorem jc_3 (l : Launch) (dC : Nat → ClassId) (dI : Nat → Nat → Nat) (cA : Nat → ClassId) (h0 sz : Nat) : Met l yX3_init (jc_ws yX3_init cX3_init 1) ({ frames := 1, cells := 2, slots := 109, locals := 12 }) (va_Pc [.ref h0] (fun U => U.heap.size = sz ∧ va_P (dC, dI) vwCl [(h0, .inr (3, [.null, .null, .int 0]))] U.heap ∧ jc_B dC dI cA U ∧ va_D (fun _ => True) [(h0, .inr (3, [.null, .null, .int 0]))])) (va_Qv (fun _ : Nat → Nat => True) (fun u t => va_P (dC, dI) vwCl (jw_3 cA h0 u) t.heap ∧ va_D (va_A [(h0, .inr (3, [.null, .null, .int 0]))] sz) (jw_3 cA h0 u)) (va_A [(h0, .inr (3, [.null, .null, .int 0]))] sz)) 2 109 (va_A [(h0, .inr (3, [.null, .null, .int 0]))] sz) := by
  refine Met.ofW (cc := cX3_init) (maxL := 1) (ret := none) (by decide) rfl ?_
  intro p e s m args below meth c s₁ B hml hv
  obtain ⟨rfl, hsz, hP, hB, hD0⟩ := hv
  have hx := B.exec
  have hb := B.bytes
  have hr := B.returns
  have hts0 := atoms_spec (ws := jc_ws yX3_init cX3_init 1) B.pre
  have hts : ∀ w ∈ jm_g, w.before _ s = true := fun w h => hts0 w (List.mem_cons_of_mem _ h)
  have hown : s.vm.findClass RX3 = some m.cls := findClass_of_methodNamed B.named
  have hlocks := B.notSynchronized
  have hin : meth.name = "<init>" := (name_of_methodNamed B.named B.method).1
  have hK := hB.1
  subst hsz
  have hD := hD0.self (sz := s.heap.size)
  generalize hAe : va_A [(h0, .inr (3, [.null, .null, .int 0]))] s.heap.size = A at hD ⊢
  have hA : ∀ q : Nat, s.heap.size ≤ q → A q := fun q h => by rw [← hAe]; exact Or.inr h
  have hS : va_S A s.heap s.heap [] := va_S.rf
  have hP : va_P (dC, dI) vwCl [(h0, .inr (3, [.null, .null, .int 0]))] s.heap := hP
  have hl := lv_entry ([.ref h0]) (n := 1) (Nat.le_of_ble_eq_true rfl)
  rw [lg_entry_eq]
  generalize (lg_sl ([.ref h0]) ++ List.replicate (1 - (lg_sl ([.ref h0])).length) Slot.unset).toArray = ls at hl ⊢
  have hl : lv_has ls 1 [(0, .ref h0)] := hl
  refine lv_aload_n hx hb dX3_init_0 rfl (lv_at hl 0 rfl) ?_
  refine W.objInit hx hb hown (hts _ (jm_in_g 472 jcw_472 rfl)) (hts _ (jm_in_g 134 jcw_134 rfl)) (hts _ (jm_in_g 135 jcw_oc rfl)) rfl (by rw [hml]; exact hl.1) rfl dX3_init_1 (Nat.le_of_ble_eq_true rfl) (Nat.le_of_ble_eq_true rfl) ?_
  refine W.eq (g2 := F0 m 4 ls []) rfl ?_
  refine lv_aload_n hx hb dX3_init_4 rfl (lv_at hl 0 rfl) ?_
  refine lv_bipush (v := 36) hx hb dX3_init_5 rfl ?_
  refine jc_newa (atype := .int) (ty := .int) (N' := 36) (a0 := (36, .inl (fun _ => 0))) (cX := cA 0) hx hb (hts _ (jm_in_g 179 jcw_179 rfl)) rfl hK hP hD hS hA (fun _ => rfl) (by decide) rfl (Nat.le_of_ble_eq_true rfl) (Nat.le_of_ble_eq_true rfl) (Nat.le_of_ble_eq_true rfl) dX3_init_7 0 rfl (fun _ _ h1 h2 => Option.some.inj (h1.symm.trans h2)) (fun q1 H hP hD hS => ?_)
  have hP : va_P (dC, dI) vwCl [(h0, .inr (3, [.null, .null, .int 0])), (q1, .inl (cA 0, 36, .inl (fun _ => 0)))] H := hP
  have hD : va_D A [(h0, .inr (3, [.null, .null, .int 0])), (q1, .inl (cA 0, 36, .inl (fun _ => 0)))] := hD
  refine va_putF (D := (dC, dI)) (ci := 3) (v := .ref q1) (ty := (.array .int)) (C := RX3) (T := TX3) (N := 3) hx hb hts (jm_uws (ci := 3) (by decide)) tyX3 tyX3_ok nmX3 hown hK hP hD hS 0 rfl rfl 0 (by decide) (hts _ (jm_in_g 473 jcw_473 rfl)) (fun _ h9 => h9) rfl hin rfl (by decide +kernel) rfl rfl (Nat.le_of_ble_eq_true rfl) dX3_init_9 (fun H locs hP hD hS => ?_)
  have hP : va_P (dC, dI) vwCl [(h0, .inr (3, [.ref q1, .null, .int 0])), (q1, .inl (cA 0, 36, .inl (fun _ => 0)))] H := hP
  have hD : va_D A [(h0, .inr (3, [.ref q1, .null, .int 0])), (q1, .inl (cA 0, 36, .inl (fun _ => 0)))] := hD
  refine lv_aload_n hx hb dX3_init_12 rfl (lv_at hl 0 rfl) ?_
  refine lv_bipush (v := 73) hx hb dX3_init_13 rfl ?_
  refine jc_newa (atype := .int) (ty := .int) (N' := 73) (a0 := (73, .inl (fun _ => 0))) (cX := cA 0) hx hb (hts _ (jm_in_g 179 jcw_179 rfl)) rfl hK hP hD hS hA (fun _ => rfl) (by decide) rfl (Nat.le_of_ble_eq_true rfl) (Nat.le_of_ble_eq_true rfl) (Nat.le_of_ble_eq_true rfl) dX3_init_15 0 rfl (fun _ _ h1 h2 => Option.some.inj (h1.symm.trans h2)) (fun q2 H hP hD hS => ?_)
  have hP : va_P (dC, dI) vwCl [(h0, .inr (3, [.ref q1, .null, .int 0])), (q1, .inl (cA 0, 36, .inl (fun _ => 0))), (q2, .inl (cA 0, 73, .inl (fun _ => 0)))] H := hP
  have hD : va_D A [(h0, .inr (3, [.ref q1, .null, .int 0])), (q1, .inl (cA 0, 36, .inl (fun _ => 0))), (q2, .inl (cA 0, 73, .inl (fun _ => 0)))] := hD
  refine va_putF (D := (dC, dI)) (ci := 3) (v := .ref q2) (ty := (.array .int)) (C := RX3) (T := TX3) (N := 3) hx hb hts (jm_uws (ci := 3) (by decide)) tyX3 tyX3_ok nmX3 hown hK hP hD hS 0 rfl rfl 1 (by decide) (hts _ (jm_in_g 474 jcw_474 rfl)) (fun _ h9 => h9) rfl hin rfl (by decide +kernel) rfl rfl (Nat.le_of_ble_eq_true rfl) dX3_init_17 (fun H locs hP hD hS => ?_)
  have hP : va_P (dC, dI) vwCl [(h0, .inr (3, [.ref q1, .ref q2, .int 0])), (q1, .inl (cA 0, 36, .inl (fun _ => 0))), (q2, .inl (cA 0, 73, .inl (fun _ => 0)))] H := hP
  have hD : va_D A [(h0, .inr (3, [.ref q1, .ref q2, .int 0])), (q1, .inl (cA 0, 36, .inl (fun _ => 0))), (q2, .inl (cA 0, 73, .inl (fun _ => 0)))] := hD
  refine W.widen (k := 2) (n := 109) (Nat.le_of_ble_eq_true rfl) (Nat.le_of_ble_eq_true rfl) ?_
  exact W.vret hx hb hr (fun t ht hW => ⟨⟨(fun k => match k with | 0 => q1 | 1 => q2 | _ => 0), rfl, trivial, by rw [ht]; exact hP, hD⟩, hS.F ht⟩) hS.2.2 dX3_init_20
/-- what the constructor of PlanarFlow.Routes makes -/
def jw_4 (cA : Nat → ClassId) (h0 : Nat) (u : Nat → Nat) : va_W := [(h0, .inr (4, [.ref (u 0)])), ((u 0), .inl (cA 0, 73, .inl (fun _ => 0)))]
set_option maxHeartbeats 4000000 in
set_option maxRecDepth 100000 in
theorem jc_4 (l : Launch) (dC : Nat → ClassId) (dI : Nat → Nat → Nat) (cA : Nat → ClassId) (h0 sz : Nat) : Met l yX4_init (jc_ws yX4_init cX4_init 1) ({ frames := 1, cells := 1, slots := 73, locals := 12 }) (va_Pc [.ref h0] (fun U => U.heap.size = sz ∧ va_P (dC, dI) vwCl [(h0, .inr (4, [.null]))] U.heap ∧ jc_B dC dI cA U ∧ va_D (fun _ => True) [(h0, .inr (4, [.null]))])) (va_Qv (fun _ : Nat → Nat => True) (fun u t => va_P (dC, dI) vwCl (jw_4 cA h0 u) t.heap ∧ va_D (va_A [(h0, .inr (4, [.null]))] sz) (jw_4 cA h0 u)) (va_A [(h0, .inr (4, [.null]))] sz)) 1 73 (va_A [(h0, .inr (4, [.null]))] sz) := by
  refine Met.ofW (cc := cX4_init) (maxL := 1) (ret := none) (by decide) rfl ?_
  intro p e s m args below meth c s₁ B hml hv
  obtain ⟨rfl, hsz, hP, hB, hD0⟩ := hv
  have hx := B.exec
  have hb := B.bytes
  have hr := B.returns
  have hts0 := atoms_spec (ws := jc_ws yX4_init cX4_init 1) B.pre
  have hts : ∀ w ∈ jm_g, w.before _ s = true := fun w h => hts0 w (List.mem_cons_of_mem _ h)
  have hown : s.vm.findClass RX4 = some m.cls := findClass_of_methodNamed B.named
  have hlocks := B.notSynchronized
  have hin : meth.name = "<init>" := (name_of_methodNamed B.named B.method).1
  have hK := hB.1
  subst hsz
  have hD := hD0.self (sz := s.heap.size)
  generalize hAe : va_A [(h0, .inr (4, [.null]))] s.heap.size = A at hD ⊢
  have hA : ∀ q : Nat, s.heap.size ≤ q → A q := fun q h => by rw [← hAe]; exact Or.inr h
  have hS : va_S A s.heap s.heap [] := va_S.rf
  have hP : va_P (dC, dI) vwCl [(h0, .inr (4, [.null]))] s.heap := hP
  have hl := lv_entry ([.ref h0]) (n := 1) (Nat.le_of_ble_eq_true rfl)
  rw [lg_entry_eq]
  generalize (lg_sl ([.ref h0]) ++ List.replicate (1 - (lg_sl ([.ref h0])).length) Slot.unset).toArray = ls at hl ⊢
  have hl : lv_has ls 1 [(0, .ref h0)] := hl
  refine lv_aload_n hx hb dX4_init_0 rfl (lv_at hl 0 rfl) ?_
  refine W.objInit hx hb hown (hts _ (jm_in_g 375 jcw_375 rfl)) (hts _ (jm_in_g 134 jcw_134 rfl)) (hts _ (jm_in_g 135 jcw_oc rfl)) rfl (by rw [hml]; exact hl.1) rfl dX4_init_1 (Nat.le_of_ble_eq_true rfl) (Nat.le_of_ble_eq_true rfl) ?_
  refine W.eq (g2 := F0 m 4 ls []) rfl ?_
  refine lv_aload_n hx hb dX4_init_4 rfl (lv_at hl 0 rfl) ?_
  refine lv_bipush (v := 73) hx hb dX4_init_5 rfl ?_
  refine jc_newa (atype := .int) (ty := .int) (N' := 73) (a0 := (73, .inl (fun _ => 0))) (cX := cA 0) hx hb (hts _ (jm_in_g 179 jcw_179 rfl)) rfl hK hP hD hS hA (fun _ => rfl) (by decide) rfl (Nat.le_of_ble_eq_true rfl) (Nat.le_of_ble_eq_true rfl) (Nat.le_of_ble_eq_true rfl) dX4_init_7 0 rfl (fun _ _ h1 h2 => Option.some.inj (h1.symm.trans h2)) (fun q1 H hP hD hS => ?_)
  have hP : va_P (dC, dI) vwCl [(h0, .inr (4, [.null])), (q1, .inl (cA 0, 73, .inl (fun _ => 0)))] H := hP
  have hD : va_D A [(h0, .inr (4, [.null])), (q1, .inl (cA 0, 73, .inl (fun _ => 0)))] := hD
  refine va_putF (D := (dC, dI)) (ci := 4) (v := .ref q1) (ty := (.array .int)) (C := RX4) (T := TX4) (N := 1) hx hb hts (jm_uws (ci := 4) (by decide)) tyX4 tyX4_ok nmX4 hown hK hP hD hS 0 rfl rfl 0 (by decide) (hts _ (jm_in_g 376 jcw_376 rfl)) (fun _ h9 => h9) rfl hin rfl (by decide +kernel) rfl rfl (Nat.le_of_ble_eq_true rfl) dX4_init_9 (fun H locs hP hD hS => ?_)
  have hP : va_P (dC, dI) vwCl [(h0, .inr (4, [.ref q1])), (q1, .inl (cA 0, 73, .inl (fun _ => 0)))] H := hP
  have hD : va_D A [(h0, .inr (4, [.ref q1])), (q1, .inl (cA 0, 73, .inl (fun _ => 0)))] := hD
  refine W.widen (k := 1) (n := 73) (Nat.le_of_ble_eq_true rfl) (Nat.le_of_ble_eq_true rfl) ?_
  exact W.vret hx hb hr (fun t ht hW => ⟨⟨(fun k => match k with | 0 => q1 | _ => 0), rfl, trivial, by rw [ht]; exact hP, hD⟩, hS.F ht⟩) hS.2.2 dX4_init_12
/-- what the constructor of PlanarFlow.Search makes -/
def jw_5 (cA : Nat → ClassId) (h0 : Nat) (u : Nat → Nat) : va_W := [(h0, .inr (5, [.ref (u 0), .ref (u 1), .ref (u 2), .ref (u 3), .ref (u 4), .int 0])), ((u 0), .inl (cA 0, 36, .inl (fun _ => 0))), ((u 1), .inl (cA 0, 36, .inl (fun _ => 0))), ((u 2), .inl (cA 0, 36, .inl (fun _ => 0))), ((u 3), .inl (cA 0, 36, .inl (fun _ => 0))), ((u 4), .inl (cA 0, 36, .inl (fun _ => 0)))]
set_option maxHeartbeats 4000000 in
set_option maxRecDepth 100000 in
theorem jc_5 (l : Launch) (dC : Nat → ClassId) (dI : Nat → Nat → Nat) (cA : Nat → ClassId) (h0 sz : Nat) : Met l yX5_init (jc_ws yX5_init cX5_init 1) ({ frames := 1, cells := 5, slots := 180, locals := 12 }) (va_Pc [.ref h0] (fun U => U.heap.size = sz ∧ va_P (dC, dI) vwCl [(h0, .inr (5, [.null, .null, .null, .null, .null, .int 0]))] U.heap ∧ jc_B dC dI cA U ∧ va_D (fun _ => True) [(h0, .inr (5, [.null, .null, .null, .null, .null, .int 0]))])) (va_Qv (fun _ : Nat → Nat => True) (fun u t => va_P (dC, dI) vwCl (jw_5 cA h0 u) t.heap ∧ va_D (va_A [(h0, .inr (5, [.null, .null, .null, .null, .null, .int 0]))] sz) (jw_5 cA h0 u)) (va_A [(h0, .inr (5, [.null, .null, .null, .null, .null, .int 0]))] sz)) 5 180 (va_A [(h0, .inr (5, [.null, .null, .null, .null, .null, .int 0]))] sz) := by
  refine Met.ofW (cc := cX5_init) (maxL := 1) (ret := none) (by decide) rfl ?_
  intro p e s m args below meth c s₁ B hml hv
  obtain ⟨rfl, hsz, hP, hB, hD0⟩ := hv
  have hx := B.exec
  have hb := B.bytes
  have hr := B.returns
  have hts0 := atoms_spec (ws := jc_ws yX5_init cX5_init 1) B.pre
  have hts : ∀ w ∈ jm_g, w.before _ s = true := fun w h => hts0 w (List.mem_cons_of_mem _ h)
  have hown : s.vm.findClass RX5 = some m.cls := findClass_of_methodNamed B.named
  have hlocks := B.notSynchronized
  have hin : meth.name = "<init>" := (name_of_methodNamed B.named B.method).1
  have hK := hB.1
  subst hsz
  have hD := hD0.self (sz := s.heap.size)
  generalize hAe : va_A [(h0, .inr (5, [.null, .null, .null, .null, .null, .int 0]))] s.heap.size = A at hD ⊢
  have hA : ∀ q : Nat, s.heap.size ≤ q → A q := fun q h => by rw [← hAe]; exact Or.inr h
  have hS : va_S A s.heap s.heap [] := va_S.rf
  have hP : va_P (dC, dI) vwCl [(h0, .inr (5, [.null, .null, .null, .null, .null, .int 0]))] s.heap := hP
  have hl := lv_entry ([.ref h0]) (n := 1) (Nat.le_of_ble_eq_true rfl)
  rw [lg_entry_eq]
  generalize (lg_sl ([.ref h0]) ++ List.replicate (1 - (lg_sl ([.ref h0])).length) Slot.unset).toArray = ls at hl ⊢
  have hl : lv_has ls 1 [(0, .ref h0)] := hl
  refine lv_aload_n hx hb dX5_init_0 rfl (lv_at hl 0 rfl) ?_
  refine W.objInit hx hb hown (hts _ (jm_in_g 404 jcw_404 rfl)) (hts _ (jm_in_g 134 jcw_134 rfl)) (hts _ (jm_in_g 135 jcw_oc rfl)) rfl (by rw [hml]; exact hl.1) rfl dX5_init_1 (Nat.le_of_ble_eq_true rfl) (Nat.le_of_ble_eq_true rfl) ?_
  refine W.eq (g2 := F0 m 4 ls []) rfl ?_
  refine lv_aload_n hx hb dX5_init_4 rfl (lv_at hl 0 rfl) ?_
  refine lv_bipush (v := 36) hx hb dX5_init_5 rfl ?_
  refine jc_newa (atype := .int) (ty := .int) (N' := 36) (a0 := (36, .inl (fun _ => 0))) (cX := cA 0) hx hb (hts _ (jm_in_g 179 jcw_179 rfl)) rfl hK hP hD hS hA (fun _ => rfl) (by decide) rfl (Nat.le_of_ble_eq_true rfl) (Nat.le_of_ble_eq_true rfl) (Nat.le_of_ble_eq_true rfl) dX5_init_7 0 rfl (fun _ _ h1 h2 => Option.some.inj (h1.symm.trans h2)) (fun q1 H hP hD hS => ?_)
  have hP : va_P (dC, dI) vwCl [(h0, .inr (5, [.null, .null, .null, .null, .null, .int 0])), (q1, .inl (cA 0, 36, .inl (fun _ => 0)))] H := hP
  have hD : va_D A [(h0, .inr (5, [.null, .null, .null, .null, .null, .int 0])), (q1, .inl (cA 0, 36, .inl (fun _ => 0)))] := hD
  refine va_putF (D := (dC, dI)) (ci := 5) (v := .ref q1) (ty := (.array .int)) (C := RX5) (T := TX5) (N := 6) hx hb hts (jm_uws (ci := 5) (by decide)) tyX5 tyX5_ok nmX5 hown hK hP hD hS 0 rfl rfl 0 (by decide) (hts _ (jm_in_g 405 jcw_405 rfl)) (fun _ h9 => h9) rfl hin rfl (by decide +kernel) rfl rfl (Nat.le_of_ble_eq_true rfl) dX5_init_9 (fun H locs hP hD hS => ?_)
  have hP : va_P (dC, dI) vwCl [(h0, .inr (5, [.ref q1, .null, .null, .null, .null, .int 0])), (q1, .inl (cA 0, 36, .inl (fun _ => 0)))] H := hP
  have hD : va_D A [(h0, .inr (5, [.ref q1, .null, .null, .null, .null, .int 0])), (q1, .inl (cA 0, 36, .inl (fun _ => 0)))] := hD
  refine lv_aload_n hx hb dX5_init_12 rfl (lv_at hl 0 rfl) ?_
  refine lv_bipush (v := 36) hx hb dX5_init_13 rfl ?_
  refine jc_newa (atype := .int) (ty := .int) (N' := 36) (a0 := (36, .inl (fun _ => 0))) (cX := cA 0) hx hb (hts _ (jm_in_g 179 jcw_179 rfl)) rfl hK hP hD hS hA (fun _ => rfl) (by decide) rfl (Nat.le_of_ble_eq_true rfl) (Nat.le_of_ble_eq_true rfl) (Nat.le_of_ble_eq_true rfl) dX5_init_15 0 rfl (fun _ _ h1 h2 => Option.some.inj (h1.symm.trans h2)) (fun q2 H hP hD hS => ?_)
  have hP : va_P (dC, dI) vwCl [(h0, .inr (5, [.ref q1, .null, .null, .null, .null, .int 0])), (q1, .inl (cA 0, 36, .inl (fun _ => 0))), (q2, .inl (cA 0, 36, .inl (fun _ => 0)))] H := hP
  have hD : va_D A [(h0, .inr (5, [.ref q1, .null, .null, .null, .null, .int 0])), (q1, .inl (cA 0, 36, .inl (fun _ => 0))), (q2, .inl (cA 0, 36, .inl (fun _ => 0)))] := hD
  refine va_putF (D := (dC, dI)) (ci := 5) (v := .ref q2) (ty := (.array .int)) (C := RX5) (T := TX5) (N := 6) hx hb hts (jm_uws (ci := 5) (by decide)) tyX5 tyX5_ok nmX5 hown hK hP hD hS 0 rfl rfl 1 (by decide) (hts _ (jm_in_g 406 jcw_406 rfl)) (fun _ h9 => h9) rfl hin rfl (by decide +kernel) rfl rfl (Nat.le_of_ble_eq_true rfl) dX5_init_17 (fun H locs hP hD hS => ?_)
  have hP : va_P (dC, dI) vwCl [(h0, .inr (5, [.ref q1, .ref q2, .null, .null, .null, .int 0])), (q1, .inl (cA 0, 36, .inl (fun _ => 0))), (q2, .inl (cA 0, 36, .inl (fun _ => 0)))] H := hP
  have hD : va_D A [(h0, .inr (5, [.ref q1, .ref q2, .null, .null, .null, .int 0])), (q1, .inl (cA 0, 36, .inl (fun _ => 0))), (q2, .inl (cA 0, 36, .inl (fun _ => 0)))] := hD
  refine lv_aload_n hx hb dX5_init_20 rfl (lv_at hl 0 rfl) ?_
  refine lv_bipush (v := 36) hx hb dX5_init_21 rfl ?_
  refine jc_newa (atype := .int) (ty := .int) (N' := 36) (a0 := (36, .inl (fun _ => 0))) (cX := cA 0) hx hb (hts _ (jm_in_g 179 jcw_179 rfl)) rfl hK hP hD hS hA (fun _ => rfl) (by decide) rfl (Nat.le_of_ble_eq_true rfl) (Nat.le_of_ble_eq_true rfl) (Nat.le_of_ble_eq_true rfl) dX5_init_23 0 rfl (fun _ _ h1 h2 => Option.some.inj (h1.symm.trans h2)) (fun q3 H hP hD hS => ?_)
  have hP : va_P (dC, dI) vwCl [(h0, .inr (5, [.ref q1, .ref q2, .null, .null, .null, .int 0])), (q1, .inl (cA 0, 36, .inl (fun _ => 0))), (q2, .inl (cA 0, 36, .inl (fun _ => 0))), (q3, .inl (cA 0, 36, .inl (fun _ => 0)))] H := hP
  have hD : va_D A [(h0, .inr (5, [.ref q1, .ref q2, .null, .null, .null, .int 0])), (q1, .inl (cA 0, 36, .inl (fun _ => 0))), (q2, .inl (cA 0, 36, .inl (fun _ => 0))), (q3, .inl (cA 0, 36, .inl (fun _ => 0)))] := hD
  refine va_putF (D := (dC, dI)) (ci := 5) (v := .ref q3) (ty := (.array .int)) (C := RX5) (T := TX5) (N := 6) hx hb hts (jm_uws (ci := 5) (by decide)) tyX5 tyX5_ok nmX5 hown hK hP hD hS 0 rfl rfl 2 (by decide) (hts _ (jm_in_g 407 jcw_407 rfl)) (fun _ h9 => h9) rfl hin rfl (by decide +kernel) rfl rfl (Nat.le_of_ble_eq_true rfl) dX5_init_25 (fun H locs hP hD hS => ?_)
  have hP : va_P (dC, dI) vwCl [(h0, .inr (5, [.ref q1, .ref q2, .ref q3, .null, .null, .int 0])), (q1, .inl (cA 0, 36, .inl (fun _ => 0))), (q2, .inl (cA 0, 36, .inl (fun _ => 0))), (q3, .inl (cA 0, 36, .inl (fun _ => 0)))] H := hP
  have hD : va_D A [(h0, .inr (5, [.ref q1, .ref q2, .ref q3, .null, .null, .int 0])), (q1, .inl (cA 0, 36, .inl (fun _ => 0))), (q2, .inl (cA 0, 36, .inl (fun _ => 0))), (q3, .inl (cA 0, 36, .inl (fun _ => 0)))] := hD
  refine lv_aload_n hx hb dX5_init_28 rfl (lv_at hl 0 rfl) ?_
  refine lv_bipush (v := 36) hx hb dX5_init_29 rfl ?_
  refine jc_newa (atype := .int) (ty := .int) (N' := 36) (a0 := (36, .inl (fun _ => 0))) (cX := cA 0) hx hb (hts _ (jm_in_g 179 jcw_179 rfl)) rfl hK hP hD hS hA (fun _ => rfl) (by decide) rfl (Nat.le_of_ble_eq_true rfl) (Nat.le_of_ble_eq_true rfl) (Nat.le_of_ble_eq_true rfl) dX5_init_31 0 rfl (fun _ _ h1 h2 => Option.some.inj (h1.symm.trans h2)) (fun q4 H hP hD hS => ?_)
  have hP : va_P (dC, dI) vwCl [(h0, .inr (5, [.ref q1, .ref q2, .ref q3, .null, .null, .int 0])), (q1, .inl (cA 0, 36, .inl (fun _ => 0))), (q2, .inl (cA 0, 36, .inl (fun _ => 0))), (q3, .inl (cA 0, 36, .inl (fun _ => 0))), (q4, .inl (cA 0, 36, .inl (fun _ => 0)))] H := hP
  have hD : va_D A [(h0, .inr (5, [.ref q1, .ref q2, .ref q3, .null, .null, .int 0])), (q1, .inl (cA 0, 36, .inl (fun _ => 0))), (q2, .inl (cA 0, 36, .inl (fun _ => 0))), (q3, .inl (cA 0, 36, .inl (fun _ => 0))), (q4, .inl (cA 0, 36, .inl (fun _ => 0)))] := hD
  refine va_putF (D := (dC, dI)) (ci := 5) (v := .ref q4) (ty := (.array .int)) (C := RX5) (T := TX5) (N := 6) hx hb hts (jm_uws (ci := 5) (by decide)) tyX5 tyX5_ok nmX5 hown hK hP hD hS 0 rfl rfl 3 (by decide) (hts _ (jm_in_g 408 jcw_408 rfl)) (fun _ h9 => h9) rfl hin rfl (by decide +kernel) rfl rfl (Nat.le_of_ble_eq_true rfl) dX5_init_33 (fun H locs hP hD hS => ?_)
  have hP : va_P (dC, dI) vwCl [(h0, .inr (5, [.ref q1, .ref q2, .ref q3, .ref q4, .null, .int 0])), (q1, .inl (cA 0, 36, .inl (fun _ => 0))), (q2, .inl (cA 0, 36, .inl (fun _ => 0))), (q3, .inl (cA 0, 36, .inl (fun _ => 0))), (q4, .inl (cA 0, 36, .inl (fun _ => 0)))] H := hP
  have hD : va_D A [(h0, .inr (5, [.ref q1, .ref q2, .ref q3, .ref q4, .null, .int 0])), (q1, .inl (cA 0, 36, .inl (fun _ => 0))), (q2, .inl (cA 0, 36, .inl (fun _ => 0))), (q3, .inl (cA 0, 36, .inl (fun _ => 0))), (q4, .inl (cA 0, 36, .inl (fun _ => 0)))] := hD
  refine lv_aload_n hx hb dX5_init_36 rfl (lv_at hl 0 rfl) ?_
  refine lv_bipush (v := 36) hx hb dX5_init_37 rfl ?_
  refine jc_newa (atype := .int) (ty := .int) (N' := 36) (a0 := (36, .inl (fun _ => 0))) (cX := cA 0) hx hb (hts _ (jm_in_g 179 jcw_179 rfl)) rfl hK hP hD hS hA (fun _ => rfl) (by decide) rfl (Nat.le_of_ble_eq_true rfl) (Nat.le_of_ble_eq_true rfl) (Nat.le_of_ble_eq_true rfl) dX5_init_39 0 rfl (fun _ _ h1 h2 => Option.some.inj (h1.symm.trans h2)) (fun q5 H hP hD hS => ?_)
  have hP : va_P (dC, dI) vwCl [(h0, .inr (5, [.ref q1, .ref q2, .ref q3, .ref q4, .null, .int 0])), (q1, .inl (cA 0, 36, .inl (fun _ => 0))), (q2, .inl (cA 0, 36, .inl (fun _ => 0))), (q3, .inl (cA 0, 36, .inl (fun _ => 0))), (q4, .inl (cA 0, 36, .inl (fun _ => 0))), (q5, .inl (cA 0, 36, .inl (fun _ => 0)))] H := hP
  have hD : va_D A [(h0, .inr (5, [.ref q1, .ref q2, .ref q3, .ref q4, .null, .int 0])), (q1, .inl (cA 0, 36, .inl (fun _ => 0))), (q2, .inl (cA 0, 36, .inl (fun _ => 0))), (q3, .inl (cA 0, 36, .inl (fun _ => 0))), (q4, .inl (cA 0, 36, .inl (fun _ => 0))), (q5, .inl (cA 0, 36, .inl (fun _ => 0)))] := hD
  refine va_putF (D := (dC, dI)) (ci := 5) (v := .ref q5) (ty := (.array .int)) (C := RX5) (T := TX5) (N := 6) hx hb hts (jm_uws (ci := 5) (by decide)) tyX5 tyX5_ok nmX5 hown hK hP hD hS 0 rfl rfl 4 (by decide) (hts _ (jm_in_g 409 jcw_409 rfl)) (fun _ h9 => h9) rfl hin rfl (by decide +kernel) rfl rfl (Nat.le_of_ble_eq_true rfl) dX5_init_41 (fun H locs hP hD hS => ?_)
  have hP : va_P (dC, dI) vwCl [(h0, .inr (5, [.ref q1, .ref q2, .ref q3, .ref q4, .ref q5, .int 0])), (q1, .inl (cA 0, 36, .inl (fun _ => 0))), (q2, .inl (cA 0, 36, .inl (fun _ => 0))), (q3, .inl (cA 0, 36, .inl (fun _ => 0))), (q4, .inl (cA 0, 36, .inl (fun _ => 0))), (q5, .inl (cA 0, 36, .inl (fun _ => 0)))] H := hP
  have hD : va_D A [(h0, .inr (5, [.ref q1, .ref q2, .ref q3, .ref q4, .ref q5, .int 0])), (q1, .inl (cA 0, 36, .inl (fun _ => 0))), (q2, .inl (cA 0, 36, .inl (fun _ => 0))), (q3, .inl (cA 0, 36, .inl (fun _ => 0))), (q4, .inl (cA 0, 36, .inl (fun _ => 0))), (q5, .inl (cA 0, 36, .inl (fun _ => 0)))] := hD
  refine W.widen (k := 5) (n := 180) (Nat.le_of_ble_eq_true rfl) (Nat.le_of_ble_eq_true rfl) ?_
  exact W.vret hx hb hr (fun t ht hW => ⟨⟨(fun k => match k with | 0 => q1 | 1 => q2 | 2 => q3 | 3 => q4 | 4 => q5 | _ => 0), rfl, trivial, by rw [ht]; exact hP, hD⟩, hS.F ht⟩) hS.2.2 dX5_init_44
/-- what the constructor of PlanarFlow.Stream makes -/
def jw_6 (cA : Nat → ClassId) (h0 : Nat) (u : Nat → Nat) : va_W := [(h0, .inr (6, [.ref (u 0), .ref (u 1), .ref (u 2), .ref (u 3), .int 0, .int 0, .int 0, .int 0, .int 0, .int 0])), ((u 0), .inl (cA 0, 108, .inl (fun _ => 0))), ((u 1), .inl (cA 0, 36, .inl (fun _ => 0))), ((u 2), .inl (cA 0, 36, .inl (fun _ => 0))), ((u 3), .inr (5, [.ref (u 4), .ref (u 5), .ref (u 6), .ref (u 7), .ref (u 8), .int 0])), ((u 4), .inl (cA 0, 36, .inl (fun _ => 0))), ((u 5), .inl (cA 0, 36, .inl (fun _ => 0))), ((u 6), .inl (cA 0, 36, .inl (fun _ => 0))), ((u 7), .inl (cA 0, 36, .inl (fun _ => 0))), ((u 8), .inl (cA 0, 36, .inl (fun _ => 0)))]
set_option maxHeartbeats 4000000 in
set_option maxRecDepth 100000 in
theorem jc_6 (l : Launch) (dC : Nat → ClassId) (dI : Nat → Nat → Nat) (cA : Nat → ClassId) (h0 sz : Nat) : Met l yX6_init (jc_ws yX6_init cX6_init 1) ({ frames := 2, cells := 9, slots := 366, locals := 32 }) (va_Pc [.ref h0] (fun U => U.heap.size = sz ∧ va_P (dC, dI) vwCl [(h0, .inr (6, [.null, .null, .null, .null, .int 0, .int 0, .int 0, .int 0, .int 0, .int 0]))] U.heap ∧ jc_B dC dI cA U ∧ va_D (fun _ => True) [(h0, .inr (6, [.null, .null, .null, .null, .int 0, .int 0, .int 0, .int 0, .int 0, .int 0]))])) (va_Qv (fun _ : Nat → Nat => True) (fun u t => va_P (dC, dI) vwCl (jw_6 cA h0 u) t.heap ∧ va_D (va_A [(h0, .inr (6, [.null, .null, .null, .null, .int 0, .int 0, .int 0, .int 0, .int 0, .int 0]))] sz) (jw_6 cA h0 u)) (va_A [(h0, .inr (6, [.null, .null, .null, .null, .int 0, .int 0, .int 0, .int 0, .int 0, .int 0]))] sz)) 9 366 (va_A [(h0, .inr (6, [.null, .null, .null, .null, .int 0, .int 0, .int 0, .int 0, .int 0, .int 0]))] sz) := by
  refine Met.ofW (cc := cX6_init) (maxL := 1) (ret := none) (by decide) rfl ?_
  intro p e s m args below meth c s₁ B hml hv
  obtain ⟨rfl, hsz, hP, hB, hD0⟩ := hv
  have hx := B.exec
  have hb := B.bytes
  have hr := B.returns
  have hts0 := atoms_spec (ws := jc_ws yX6_init cX6_init 1) B.pre
  have hts : ∀ w ∈ jm_g, w.before _ s = true := fun w h => hts0 w (List.mem_cons_of_mem _ h)
  have hown : s.vm.findClass RX6 = some m.cls := findClass_of_methodNamed B.named
  have hlocks := B.notSynchronized
  have hin : meth.name = "<init>" := (name_of_methodNamed B.named B.method).1
  have hK := hB.1
  subst hsz
  have hD := hD0.self (sz := s.heap.size)
  generalize hAe : va_A [(h0, .inr (6, [.null, .null, .null, .null, .int 0, .int 0, .int 0, .int 0, .int 0, .int 0]))] s.heap.size = A at hD ⊢
  have hA : ∀ q : Nat, s.heap.size ≤ q → A q := fun q h => by rw [← hAe]; exact Or.inr h
  have hS : va_S A s.heap s.heap [] := va_S.rf
  have hP : va_P (dC, dI) vwCl [(h0, .inr (6, [.null, .null, .null, .null, .int 0, .int 0, .int 0, .int 0, .int 0, .int 0]))] s.heap := hP
  have hl := lv_entry ([.ref h0]) (n := 1) (Nat.le_of_ble_eq_true rfl)
  rw [lg_entry_eq]
  generalize (lg_sl ([.ref h0]) ++ List.replicate (1 - (lg_sl ([.ref h0])).length) Slot.unset).toArray = ls at hl ⊢
  have hl : lv_has ls 1 [(0, .ref h0)] := hl
  refine lv_aload_n hx hb dX6_init_0 rfl (lv_at hl 0 rfl) ?_
  refine W.objInit hx hb hown (hts _ (jm_in_g 398 jcw_398 rfl)) (hts _ (jm_in_g 134 jcw_134 rfl)) (hts _ (jm_in_g 135 jcw_oc rfl)) rfl (by rw [hml]; exact hl.1) rfl dX6_init_1 (Nat.le_of_ble_eq_true rfl) (Nat.le_of_ble_eq_true rfl) ?_
  refine W.eq (g2 := F0 m 4 ls []) rfl ?_
  refine lv_aload_n hx hb dX6_init_4 rfl (lv_at hl 0 rfl) ?_
  refine lv_bipush (v := 108) hx hb dX6_init_5 rfl ?_
  refine jc_newa (atype := .int) (ty := .int) (N' := 108) (a0 := (108, .inl (fun _ => 0))) (cX := cA 0) hx hb (hts _ (jm_in_g 179 jcw_179 rfl)) rfl hK hP hD hS hA (fun _ => rfl) (by decide) rfl (Nat.le_of_ble_eq_true rfl) (Nat.le_of_ble_eq_true rfl) (Nat.le_of_ble_eq_true rfl) dX6_init_7 0 rfl (fun _ _ h1 h2 => Option.some.inj (h1.symm.trans h2)) (fun q1 H hP hD hS => ?_)
  have hP : va_P (dC, dI) vwCl [(h0, .inr (6, [.null, .null, .null, .null, .int 0, .int 0, .int 0, .int 0, .int 0, .int 0])), (q1, .inl (cA 0, 108, .inl (fun _ => 0)))] H := hP
  have hD : va_D A [(h0, .inr (6, [.null, .null, .null, .null, .int 0, .int 0, .int 0, .int 0, .int 0, .int 0])), (q1, .inl (cA 0, 108, .inl (fun _ => 0)))] := hD
  refine va_putF (D := (dC, dI)) (ci := 6) (v := .ref q1) (ty := (.array .int)) (C := RX6) (T := TX6) (N := 10) hx hb hts (jm_uws (ci := 6) (by decide)) tyX6 tyX6_ok nmX6 hown hK hP hD hS 0 rfl rfl 0 (by decide) (hts _ (jm_in_g 425 jcw_425 rfl)) (fun _ h9 => h9) rfl hin rfl (by decide +kernel) rfl rfl (Nat.le_of_ble_eq_true rfl) dX6_init_9 (fun H locs hP hD hS => ?_)
  have hP : va_P (dC, dI) vwCl [(h0, .inr (6, [.ref q1, .null, .null, .null, .int 0, .int 0, .int 0, .int 0, .int 0, .int 0])), (q1, .inl (cA 0, 108, .inl (fun _ => 0)))] H := hP
  have hD : va_D A [(h0, .inr (6, [.ref q1, .null, .null, .null, .int 0, .int 0, .int 0, .int 0, .int 0, .int 0])), (q1, .inl (cA 0, 108, .inl (fun _ => 0)))] := hD
  refine lv_aload_n hx hb dX6_init_12 rfl (lv_at hl 0 rfl) ?_
  refine lv_bipush (v := 36) hx hb dX6_init_13 rfl ?_
  refine jc_newa (atype := .int) (ty := .int) (N' := 36) (a0 := (36, .inl (fun _ => 0))) (cX := cA 0) hx hb (hts _ (jm_in_g 179 jcw_179 rfl)) rfl hK hP hD hS hA (fun _ => rfl) (by decide) rfl (Nat.le_of_ble_eq_true rfl) (Nat.le_of_ble_eq_true rfl) (Nat.le_of_ble_eq_true rfl) dX6_init_15 0 rfl (fun _ _ h1 h2 => Option.some.inj (h1.symm.trans h2)) (fun q2 H hP hD hS => ?_)
  have hP : va_P (dC, dI) vwCl [(h0, .inr (6, [.ref q1, .null, .null, .null, .int 0, .int 0, .int 0, .int 0, .int 0, .int 0])), (q1, .inl (cA 0, 108, .inl (fun _ => 0))), (q2, .inl (cA 0, 36, .inl (fun _ => 0)))] H := hP
  have hD : va_D A [(h0, .inr (6, [.ref q1, .null, .null, .null, .int 0, .int 0, .int 0, .int 0, .int 0, .int 0])), (q1, .inl (cA 0, 108, .inl (fun _ => 0))), (q2, .inl (cA 0, 36, .inl (fun _ => 0)))] := hD
  refine va_putF (D := (dC, dI)) (ci := 6) (v := .ref q2) (ty := (.array .int)) (C := RX6) (T := TX6) (N := 10) hx hb hts (jm_uws (ci := 6) (by decide)) tyX6 tyX6_ok nmX6 hown hK hP hD hS 0 rfl rfl 1 (by decide) (hts _ (jm_in_g 427 jcw_427 rfl)) (fun _ h9 => h9) rfl hin rfl (by decide +kernel) rfl rfl (Nat.le_of_ble_eq_true rfl) dX6_init_17 (fun H locs hP hD hS => ?_)
  have hP : va_P (dC, dI) vwCl [(h0, .inr (6, [.ref q1, .ref q2, .null, .null, .int 0, .int 0, .int 0, .int 0, .int 0, .int 0])), (q1, .inl (cA 0, 108, .inl (fun _ => 0))), (q2, .inl (cA 0, 36, .inl (fun _ => 0)))] H := hP
  have hD : va_D A [(h0, .inr (6, [.ref q1, .ref q2, .null, .null, .int 0, .int 0, .int 0, .int 0, .int 0, .int 0])), (q1, .inl (cA 0, 108, .inl (fun _ => 0))), (q2, .inl (cA 0, 36, .inl (fun _ => 0)))] := hD
  refine lv_aload_n hx hb dX6_init_20 rfl (lv_at hl 0 rfl) ?_
  refine lv_bipush (v := 36) hx hb dX6_init_21 rfl ?_
  refine jc_newa (atype := .int) (ty := .int) (N' := 36) (a0 := (36, .inl (fun _ => 0))) (cX := cA 0) hx hb (hts _ (jm_in_g 179 jcw_179 rfl)) rfl hK hP hD hS hA (fun _ => rfl) (by decide) rfl (Nat.le_of_ble_eq_true rfl) (Nat.le_of_ble_eq_true rfl) (Nat.le_of_ble_eq_true rfl) dX6_init_23 0 rfl (fun _ _ h1 h2 => Option.some.inj (h1.symm.trans h2)) (fun q3 H hP hD hS => ?_)
  have hP : va_P (dC, dI) vwCl [(h0, .inr (6, [.ref q1, .ref q2, .null, .null, .int 0, .int 0, .int 0, .int 0, .int 0, .int 0])), (q1, .inl (cA 0, 108, .inl (fun _ => 0))), (q2, .inl (cA 0, 36, .inl (fun _ => 0))), (q3, .inl (cA 0, 36, .inl (fun _ => 0)))] H := hP
  have hD : va_D A [(h0, .inr (6, [.ref q1, .ref q2, .null, .null, .int 0, .int 0, .int 0, .int 0, .int 0, .int 0])), (q1, .inl (cA 0, 108, .inl (fun _ => 0))), (q2, .inl (cA 0, 36, .inl (fun _ => 0))), (q3, .inl (cA 0, 36, .inl (fun _ => 0)))] := hD
  refine va_putF (D := (dC, dI)) (ci := 6) (v := .ref q3) (ty := (.array .int)) (C := RX6) (T := TX6) (N := 10) hx hb hts (jm_uws (ci := 6) (by decide)) tyX6 tyX6_ok nmX6 hown hK hP hD hS 0 rfl rfl 2 (by decide) (hts _ (jm_in_g 429 jcw_429 rfl)) (fun _ h9 => h9) rfl hin rfl (by decide +kernel) rfl rfl (Nat.le_of_ble_eq_true rfl) dX6_init_25 (fun H locs hP hD hS => ?_)
  have hP : va_P (dC, dI) vwCl [(h0, .inr (6, [.ref q1, .ref q2, .ref q3, .null, .int 0, .int 0, .int 0, .int 0, .int 0, .int 0])), (q1, .inl (cA 0, 108, .inl (fun _ => 0))), (q2, .inl (cA 0, 36, .inl (fun _ => 0))), (q3, .inl (cA 0, 36, .inl (fun _ => 0)))] H := hP
  have hD : va_D A [(h0, .inr (6, [.ref q1, .ref q2, .ref q3, .null, .int 0, .int 0, .int 0, .int 0, .int 0, .int 0])), (q1, .inl (cA 0, 108, .inl (fun _ => 0))), (q2, .inl (cA 0, 36, .inl (fun _ => 0))), (q3, .inl (cA 0, 36, .inl (fun _ => 0)))] := hD
  refine lv_aload_n hx hb dX6_init_28 rfl (lv_at hl 0 rfl) ?_
  refine va_new (ci := 5) (fs := [.null, .null, .null, .null, .null, .int 0]) (C := RX5) (T := TX5) (N := 6) hx hb hts (jm_uws (ci := 5) (by decide)) tyX5 tyX5_ok hown (hts _ (jm_in_g 399 jcw_399 rfl)) (hts _ (jm_in_g 400 jcw_400 rfl)) (hts _ (jm_in_g 114 jcw_114 rfl)) hK hP hD hS hA rfl (fun j hj => match j, hj with | 0, _ => rfl | 1, _ => rfl | 2, _ => rfl | 3, _ => rfl | 4, _ => rfl | 5, _ => rfl | k + 6, h => absurd h (by omega)) (Nat.le_of_ble_eq_true rfl) (Nat.le_of_ble_eq_true rfl) dX6_init_29 (fun q4 H hP hD hS => ?_)
  have hP : va_P (dC, dI) vwCl [(h0, .inr (6, [.ref q1, .ref q2, .ref q3, .null, .int 0, .int 0, .int 0, .int 0, .int 0, .int 0])), (q1, .inl (cA 0, 108, .inl (fun _ => 0))), (q2, .inl (cA 0, 36, .inl (fun _ => 0))), (q3, .inl (cA 0, 36, .inl (fun _ => 0))), (q4, .inr (5, [.null, .null, .null, .null, .null, .int 0]))] H := hP
  have hD : va_D A [(h0, .inr (6, [.ref q1, .ref q2, .ref q3, .null, .int 0, .int 0, .int 0, .int 0, .int 0, .int 0])), (q1, .inl (cA 0, 108, .inl (fun _ => 0))), (q2, .inl (cA 0, 36, .inl (fun _ => 0))), (q3, .inl (cA 0, 36, .inl (fun _ => 0))), (q4, .inr (5, [.null, .null, .null, .null, .null, .int 0]))] := hD
  refine lv_dup hx hb dX6_init_32 rfl ?_
  have hPc := hP.sub (ws' := [(q4, .inr (5, [.null, .null, .null, .null, .null, .int 0]))]) [4] rfl
  have hDc := hD.sub (ws' := [(q4, .inr (5, [.null, .null, .null, .null, .null, .int 0]))]) [4] (by decide) rfl
  have hFc := va_free (wc := [(q4, .inr (5, [.null, .null, .null, .null, .null, .int 0]))]) hD hS hA [4] rfl
  refine va_callv (va_runIN (As := []) (rest := [.ref q4, .ref h0]) ⟨hx, hb, hml, hown, hts⟩ (jc_5 l dC dI cA q4 H.size) ⟨va_cnB 0 hts (jc_good (jm_in_g 403 jcw_403 rfl)) rfl rfl rfl (hB.2.1 _ (List.mem_of_getElem? (i := 6) rfl)) (hts _ (jm_in_g 114 jcw_114 rfl)) (by decide +kernel) ⟨Nat.le_of_ble_eq_true rfl, Nat.le_of_ble_eq_true rfl⟩, rfl, (hts _ (jm_in_g 402 jcw_402 rfl))⟩ ⟨fun a U g mk q => by obtain ⟨q0, q1, qP, qB, qD⟩ := q; exact ⟨q0, q1, qP, jc_B_blind qB, qD⟩, fun U hU hW => ⟨rfl, by rw [hU], by rw [hU]; exact hPc, jc_B_to hW hB, hDc.weaken (fun _ _ _ _ => trivial)⟩⟩ rfl rfl hl.1 rfl (lv_room (Nat.le_of_ble_eq_true rfl)) dX6_init_33 ⟨Nat.le_of_ble_eq_true rfl, Nat.le_of_ble_eq_true rfl⟩) hS (fun q _ h => hFc q h) hFc (fun v5 t H1 locs ht hvm hw hB1 hz1 hk1 hS => ?_)
  obtain ⟨hP1, hD1⟩ := hB1
  rw [ht] at hP1
  obtain ⟨hP, hD⟩ := va_join (wr := [(h0, .inr (6, [.ref q1, .ref q2, .ref q3, .null, .int 0, .int 0, .int 0, .int 0, .int 0, .int 0])), (q1, .inl (cA 0, 108, .inl (fun _ => 0))), (q2, .inl (cA 0, 36, .inl (fun _ => 0))), (q3, .inl (cA 0, 36, .inl (fun _ => 0)))]) (w1 := (jw_5 cA q4 v5)) hP hD [4] [0, 1, 2, 3] rfl rfl (by decide) (by decide) hk1 hFc hP1 hD1
  generalize H1 = H at hP hS ⊢
  have hP : va_P (dC, dI) vwCl [(h0, .inr (6, [.ref q1, .ref q2, .ref q3, .null, .int 0, .int 0, .int 0, .int 0, .int 0, .int 0])), (q1, .inl (cA 0, 108, .inl (fun _ => 0))), (q2, .inl (cA 0, 36, .inl (fun _ => 0))), (q3, .inl (cA 0, 36, .inl (fun _ => 0))), (q4, .inr (5, [.ref (v5 0), .ref (v5 1), .ref (v5 2), .ref (v5 3), .ref (v5 4), .int 0])), ((v5 0), .inl (cA 0, 36, .inl (fun _ => 0))), ((v5 1), .inl (cA 0, 36, .inl (fun _ => 0))), ((v5 2), .inl (cA 0, 36, .inl (fun _ => 0))), ((v5 3), .inl (cA 0, 36, .inl (fun _ => 0))), ((v5 4), .inl (cA 0, 36, .inl (fun _ => 0)))] H := hP
  have hD : va_D A [(h0, .inr (6, [.ref q1, .ref q2, .ref q3, .null, .int 0, .int 0, .int 0, .int 0, .int 0, .int 0])), (q1, .inl (cA 0, 108, .inl (fun _ => 0))), (q2, .inl (cA 0, 36, .inl (fun _ => 0))), (q3, .inl (cA 0, 36, .inl (fun _ => 0))), (q4, .inr (5, [.ref (v5 0), .ref (v5 1), .ref (v5 2), .ref (v5 3), .ref (v5 4), .int 0])), ((v5 0), .inl (cA 0, 36, .inl (fun _ => 0))), ((v5 1), .inl (cA 0, 36, .inl (fun _ => 0))), ((v5 2), .inl (cA 0, 36, .inl (fun _ => 0))), ((v5 3), .inl (cA 0, 36, .inl (fun _ => 0))), ((v5 4), .inl (cA 0, 36, .inl (fun _ => 0)))] := hD
  refine va_putF (D := (dC, dI)) (ci := 6) (v := .ref q4) (ty := (.object "PlanarFlow$Search")) (C := RX6) (T := TX6) (N := 10) hx hb hts (jm_uws (ci := 6) (by decide)) tyX6 tyX6_ok nmX6 hown hK hP hD hS 0 rfl rfl 3 (by decide) (hts _ (jm_in_g 431 jcw_431 rfl)) (fun _ h9 => h9) rfl hin rfl (by decide +kernel) rfl rfl (Nat.le_of_ble_eq_true rfl) dX6_init_36 (fun H locs hP hD hS => ?_)
  have hP : va_P (dC, dI) vwCl [(h0, .inr (6, [.ref q1, .ref q2, .ref q3, .ref q4, .int 0, .int 0, .int 0, .int 0, .int 0, .int 0])), (q1, .inl (cA 0, 108, .inl (fun _ => 0))), (q2, .inl (cA 0, 36, .inl (fun _ => 0))), (q3, .inl (cA 0, 36, .inl (fun _ => 0))), (q4, .inr (5, [.ref (v5 0), .ref (v5 1), .ref (v5 2), .ref (v5 3), .ref (v5 4), .int 0])), ((v5 0), .inl (cA 0, 36, .inl (fun _ => 0))), ((v5 1), .inl (cA 0, 36, .inl (fun _ => 0))), ((v5 2), .inl (cA 0, 36, .inl (fun _ => 0))), ((v5 3), .inl (cA 0, 36, .inl (fun _ => 0))), ((v5 4), .inl (cA 0, 36, .inl (fun _ => 0)))] H := hP
  have hD : va_D A [(h0, .inr (6, [.ref q1, .ref q2, .ref q3, .ref q4, .int 0, .int 0, .int 0, .int 0, .int 0, .int 0])), (q1, .inl (cA 0, 108, .inl (fun _ => 0))), (q2, .inl (cA 0, 36, .inl (fun _ => 0))), (q3, .inl (cA 0, 36, .inl (fun _ => 0))), (q4, .inr (5, [.ref (v5 0), .ref (v5 1), .ref (v5 2), .ref (v5 3), .ref (v5 4), .int 0])), ((v5 0), .inl (cA 0, 36, .inl (fun _ => 0))), ((v5 1), .inl (cA 0, 36, .inl (fun _ => 0))), ((v5 2), .inl (cA 0, 36, .inl (fun _ => 0))), ((v5 3), .inl (cA 0, 36, .inl (fun _ => 0))), ((v5 4), .inl (cA 0, 36, .inl (fun _ => 0)))] := hD
  refine W.widen (k := 9) (n := 366) (Nat.le_of_ble_eq_true rfl) (Nat.le_of_ble_eq_true rfl) ?_
  exact W.vret hx hb hr (fun t ht hW => ⟨⟨(fun k => match k with | 0 => q1 | 1 => q2 | 2 => q3 | 3 => q4 | 4 => (v5 0) | 5 => (v5 1) | 6 => (v5 2) | 7 => (v5 3) | 8 => (v5 4) | _ => 0), rfl, trivial, by rw [ht]; exact hP, hD⟩, hS.F ht⟩) hS.2.2 dX6_init_39
/-- what the constructor of PlanarFlow.Tape makes -/
def jw_7 (cA : Nat → ClassId) (h0 : Nat) (u : Nat → Nat) : va_W := [(h0, .inr (7, [.ref (u 0), .int 0, .int 0, .int 0, .int 0, .int 0, .int 0, .int 0])), ((u 0), .inl (cA 2, 600, .inl (fun _ => 0)))]
set_option maxHeartbeats 4000000 in
set_option maxRecDepth 100000 in
theorem jc_7 (l : Launch) (dC : Nat → ClassId) (dI : Nat → Nat → Nat) (cA : Nat → ClassId) (h0 sz : Nat) : Met l yX7_init (jc_ws yX7_init cX7_init 1) ({ frames := 1, cells := 1, slots := 600, locals := 12 }) (va_Pc [.ref h0] (fun U => U.heap.size = sz ∧ va_P (dC, dI) vwCl [(h0, .inr (7, [.null, .int 0, .int 0, .int 0, .int 0, .int 0, .int 0, .int 0]))] U.heap ∧ jc_B dC dI cA U ∧ va_D (fun _ => True) [(h0, .inr (7, [.null, .int 0, .int 0, .int 0, .int 0, .int 0, .int 0, .int 0]))])) (va_Qv (fun _ : Nat → Nat => True) (fun u t => va_P (dC, dI) vwCl (jw_7 cA h0 u) t.heap ∧ va_D (va_A [(h0, .inr (7, [.null, .int 0, .int 0, .int 0, .int 0, .int 0, .int 0, .int 0]))] sz) (jw_7 cA h0 u)) (va_A [(h0, .inr (7, [.null, .int 0, .int 0, .int 0, .int 0, .int 0, .int 0, .int 0]))] sz)) 1 600 (va_A [(h0, .inr (7, [.null, .int 0, .int 0, .int 0, .int 0, .int 0, .int 0, .int 0]))] sz) := by
  refine Met.ofW (cc := cX7_init) (maxL := 1) (ret := none) (by decide) rfl ?_
  intro p e s m args below meth c s₁ B hml hv
  obtain ⟨rfl, hsz, hP, hB, hD0⟩ := hv
  have hx := B.exec
  have hb := B.bytes
  have hr := B.returns
  have hts0 := atoms_spec (ws := jc_ws yX7_init cX7_init 1) B.pre
  have hts : ∀ w ∈ jm_g, w.before _ s = true := fun w h => hts0 w (List.mem_cons_of_mem _ h)
  have hown : s.vm.findClass RX7 = some m.cls := findClass_of_methodNamed B.named
  have hlocks := B.notSynchronized
  have hin : meth.name = "<init>" := (name_of_methodNamed B.named B.method).1
  have hK := hB.1
  subst hsz
  have hD := hD0.self (sz := s.heap.size)
  generalize hAe : va_A [(h0, .inr (7, [.null, .int 0, .int 0, .int 0, .int 0, .int 0, .int 0, .int 0]))] s.heap.size = A at hD ⊢
  have hA : ∀ q : Nat, s.heap.size ≤ q → A q := fun q h => by rw [← hAe]; exact Or.inr h
  have hS : va_S A s.heap s.heap [] := va_S.rf
  have hP : va_P (dC, dI) vwCl [(h0, .inr (7, [.null, .int 0, .int 0, .int 0, .int 0, .int 0, .int 0, .int 0]))] s.heap := hP
  have hl := lv_entry ([.ref h0]) (n := 1) (Nat.le_of_ble_eq_true rfl)
  rw [lg_entry_eq]
  generalize (lg_sl ([.ref h0]) ++ List.replicate (1 - (lg_sl ([.ref h0])).length) Slot.unset).toArray = ls at hl ⊢
  have hl : lv_has ls 1 [(0, .ref h0)] := hl
  refine lv_aload_n hx hb dX7_init_0 rfl (lv_at hl 0 rfl) ?_
  refine W.objInit hx hb hown (hts _ (jm_in_g 488 jcw_488 rfl)) (hts _ (jm_in_g 134 jcw_134 rfl)) (hts _ (jm_in_g 135 jcw_oc rfl)) rfl (by rw [hml]; exact hl.1) rfl dX7_init_1 (Nat.le_of_ble_eq_true rfl) (Nat.le_of_ble_eq_true rfl) ?_
  refine W.eq (g2 := F0 m 4 ls []) rfl ?_
  refine lv_aload_n hx hb dX7_init_4 rfl (lv_at hl 0 rfl) ?_
  refine lv_sipush (v := 600) hx hb dX7_init_5 rfl ?_
  refine jc_newa (atype := .byte) (ty := .byte) (N' := 600) (a0 := (600, .inl (fun _ => 0))) (cX := cA 2) hx hb (hts _ (jm_in_g 515 jcw_515 rfl)) rfl hK hP hD hS hA (fun _ => rfl) (by decide) rfl (Nat.le_of_ble_eq_true rfl) (Nat.le_of_ble_eq_true rfl) (Nat.le_of_ble_eq_true rfl) dX7_init_8 2 rfl (fun _ _ h1 h2 => Option.some.inj (h1.symm.trans h2)) (fun q1 H hP hD hS => ?_)
  have hP : va_P (dC, dI) vwCl [(h0, .inr (7, [.null, .int 0, .int 0, .int 0, .int 0, .int 0, .int 0, .int 0])), (q1, .inl (cA 2, 600, .inl (fun _ => 0)))] H := hP
  have hD : va_D A [(h0, .inr (7, [.null, .int 0, .int 0, .int 0, .int 0, .int 0, .int 0, .int 0])), (q1, .inl (cA 2, 600, .inl (fun _ => 0)))] := hD
  refine va_putF (D := (dC, dI)) (ci := 7) (v := .ref q1) (ty := (.array .byte)) (C := RX7) (T := TX7) (N := 8) hx hb hts (jm_uws (ci := 7) (by decide)) tyX7 tyX7_ok nmX7 hown hK hP hD hS 0 rfl rfl 0 (by decide) (hts _ (jm_in_g 489 jcw_489 rfl)) (fun _ h9 => h9) rfl hin rfl (by decide +kernel) rfl rfl (Nat.le_of_ble_eq_true rfl) dX7_init_10 (fun H locs hP hD hS => ?_)
  have hP : va_P (dC, dI) vwCl [(h0, .inr (7, [.ref q1, .int 0, .int 0, .int 0, .int 0, .int 0, .int 0, .int 0])), (q1, .inl (cA 2, 600, .inl (fun _ => 0)))] H := hP
  have hD : va_D A [(h0, .inr (7, [.ref q1, .int 0, .int 0, .int 0, .int 0, .int 0, .int 0, .int 0])), (q1, .inl (cA 2, 600, .inl (fun _ => 0)))] := hD
  refine W.widen (k := 1) (n := 600) (Nat.le_of_ble_eq_true rfl) (Nat.le_of_ble_eq_true rfl) ?_
  exact W.vret hx hb hr (fun t ht hW => ⟨⟨(fun k => match k with | 0 => q1 | _ => 0), rfl, trivial, by rw [ht]; exact hP, hD⟩, hS.F ht⟩) hS.2.2 dX7_init_13
