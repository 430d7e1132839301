/-! THE LAW'S START: what holds there -/
set_option maxRecDepth 100000 in
theorem jlw_340 : lw_tbl[340]? = some (.instantiable "PlanarFlow$Dual" 6) := rfl
set_option maxRecDepth 100000 in
theorem jlw_381 : lw_tbl[381]? = some (.instantiable "PlanarFlow$Halves" 2) := rfl
set_option maxRecDepth 100000 in
theorem jlw_137 : lw_tbl[137]? = some (.instantiable "PlanarFlow$Net" 17) := rfl
set_option maxRecDepth 100000 in
theorem jlw_468 : lw_tbl[468]? = some (.instantiable "PlanarFlow$Parting" 3) := rfl
set_option maxRecDepth 100000 in
theorem jlw_371 : lw_tbl[371]? = some (.instantiable "PlanarFlow$Routes" 1) := rfl
set_option maxRecDepth 100000 in
theorem jlw_400 : lw_tbl[400]? = some (.instantiable "PlanarFlow$Search" 6) := rfl
set_option maxRecDepth 100000 in
theorem jlw_394 : lw_tbl[394]? = some (.instantiable "PlanarFlow$Stream" 10) := rfl
set_option maxRecDepth 100000 in
theorem jlw_484 : lw_tbl[484]? = some (.instantiable "PlanarFlow$Tape" 8) := rfl
set_option maxRecDepth 100000 in
theorem jlw_143 : lw_tbl[143]? = some (.instantiable "PlanarFlow$Told" 6) := rfl
set_option maxRecDepth 100000 in
theorem jlw_129 : lw_tbl[129]? = some (.instantiable "PlanarFlow" 11) := rfl
set_option maxRecDepth 100000 in
theorem jlw_1163 : lw_tbl[1163]? = some (.instantiable "PlanarFlowModel" 52) := rfl
set_option maxRecDepth 100000 in
theorem jlw_179 : lw_tbl[179]? = some (.arrayClass .int) := rfl
set_option maxRecDepth 100000 in
theorem jlw_338 : lw_tbl[338]? = some (.arrayOver (.object "PlanarFlow$Told")) := rfl
set_option maxRecDepth 100000 in
theorem jlw_369 : lw_tbl[369]? = some (.arrayClass .boolean) := rfl
set_option maxRecDepth 100000 in
theorem jlw_515 : lw_tbl[515]? = some (.arrayClass .byte) := rfl
set_option maxRecDepth 100000 in
theorem jlw_1714 : lw_tbl[1714]? = some (.arrayClass .long) := rfl
set_option maxRecDepth 100000 in
theorem jlw_582 : lw_tbl[582]? = some (.stringRef "PlanarFlow$Tape" 45 "grid") := rfl
set_option maxRecDepth 100000 in
theorem jlw_652 : lw_tbl[652]? = some (.stringRef "PlanarFlow$Tape" 64 "all") := rfl
set_option maxRecDepth 100000 in
theorem jlw_669 : lw_tbl[669]? = some (.stringRef "PlanarFlow$Tape" 69 "right") := rfl
set_option maxRecDepth 100000 in
theorem jlw_681 : lw_tbl[681]? = some (.stringRef "PlanarFlow$Tape" 75 "down") := rfl
set_option maxRecDepth 100000 in
theorem jlw_682 : lw_tbl[682]? = some (.stringRef "PlanarFlow$Tape" 77 "slash") := rfl
set_option maxRecDepth 100000 in
theorem jlw_683 : lw_tbl[683]? = some (.stringRef "PlanarFlow$Tape" 79 "back") := rfl
set_option maxRecDepth 100000 in
theorem jlw_1083 : lw_tbl[1083]? = some (.stringRef "PlanarFlow" 155 "no such face") := rfl
set_option maxRecDepth 100000 in
theorem jlw_1116 : lw_tbl[1116]? = some (.stringRef "PlanarFlow" 163 "no such faces") := rfl
set_option maxRecDepth 100000 in
theorem jlw_1136 : lw_tbl[1136]? = some (.stringRef "PlanarFlow" 212 "no such edge, or no flow") := rfl
set_option maxRecDepth 100000 in
theorem jlw_1144 : lw_tbl[1144]? = some (.stringRef "PlanarFlow" 217 "no such edge or way, or no flow") := rfl
set_option maxRecDepth 100000 in
theorem jlw_1153 : lw_tbl[1153]? = some (.stringRef "PlanarFlow" 241 "no such node, or no flow") := rfl
set_option maxRecDepth 100000 in
theorem jlw_596 : lw_tbl[596]? = some (.laysStatic "java/lang/String" "COMPACT_STRINGS" "Z") := rfl
set_option maxRecDepth 100000 in
theorem jlw_612 : lw_tbl[612]? = some (.laysStatic "jdk/internal/util/Preconditions" "SIOOBE_FORMATTER" "Ljava/util/function/BiFunction;") := rfl
set_option maxRecDepth 100000 in
theorem jlw_1071 : lw_tbl[1071]? = some (.laysStatic "java/lang/Throwable" "UNASSIGNED_STACK" "[Ljava/lang/StackTraceElement;") := rfl
set_option maxRecDepth 100000 in
theorem jlw_1073 : lw_tbl[1073]? = some (.laysStatic "java/lang/Throwable" "SUPPRESSED_SENTINEL" "Ljava/util/List;") := rfl
set_option maxRecDepth 100000 in
theorem jlw_118 : lw_tbl[118]? = some (.initialized "java/lang/String") := rfl
set_option maxRecDepth 100000 in
theorem jlw_120 : lw_tbl[120]? = some (.initialized "jdk/internal/util/Preconditions") := rfl
set_option maxRecDepth 100000 in
theorem jlw_124 : lw_tbl[124]? = some (.initialized "java/lang/Throwable") := rfl
set_option maxRecDepth 100000 in
theorem jlw_1046 : lw_tbl[1046]? = some (.castable "java/util/NoSuchElementException" "java/util/NoSuchElementException") := rfl
set_option maxRecDepth 100000 in
theorem jlw_1048 : lw_tbl[1048]? = some (.declares ⟨"java/lang/RuntimeException", "<init>", "(Ljava/lang/String;)V"⟩) := rfl
set_option maxRecDepth 100000 in
theorem jlw_1050 : lw_tbl[1050]? = some (.declares ⟨"java/lang/Exception", "<init>", "(Ljava/lang/String;)V"⟩) := rfl
set_option maxRecDepth 100000 in
theorem jlw_1052 : lw_tbl[1052]? = some (.declares ⟨"java/lang/Throwable", "<init>", "(Ljava/lang/String;)V"⟩) := rfl
set_option maxRecDepth 100000 in
theorem jlw_144 : lw_tbl[144]? = some (.methodLinkNest "PlanarFlow$Net" 11 ⟨"PlanarFlow$Told", "<init>", "()V"⟩ "PlanarFlow") := rfl
set_option maxRecDepth 100000 in
theorem jlw_337 : lw_tbl[337]? = some (.methodLinkNest "PlanarFlow" 20 ⟨"PlanarFlow$Told", "<init>", "()V"⟩ "PlanarFlow") := rfl
set_option maxRecDepth 100000 in
theorem jlw_341 : lw_tbl[341]? = some (.methodLinkNest "PlanarFlow" 35 ⟨"PlanarFlow$Dual", "<init>", "()V"⟩ "PlanarFlow") := rfl
set_option maxRecDepth 100000 in
theorem jlw_372 : lw_tbl[372]? = some (.methodLinkNest "PlanarFlow" 42 ⟨"PlanarFlow$Routes", "<init>", "()V"⟩ "PlanarFlow") := rfl
set_option maxRecDepth 100000 in
theorem jlw_382 : lw_tbl[382]? = some (.methodLinkNest "PlanarFlow" 49 ⟨"PlanarFlow$Halves", "<init>", "()V"⟩ "PlanarFlow") := rfl
set_option maxRecDepth 100000 in
theorem jlw_395 : lw_tbl[395]? = some (.methodLinkNest "PlanarFlow" 56 ⟨"PlanarFlow$Stream", "<init>", "()V"⟩ "PlanarFlow") := rfl
set_option maxRecDepth 100000 in
theorem jlw_401 : lw_tbl[401]? = some (.methodLinkNest "PlanarFlow$Stream" 23 ⟨"PlanarFlow$Search", "<init>", "()V"⟩ "PlanarFlow") := rfl
set_option maxRecDepth 100000 in
theorem jlw_469 : lw_tbl[469]? = some (.methodLinkNest "PlanarFlow" 66 ⟨"PlanarFlow$Parting", "<init>", "()V"⟩ "PlanarFlow") := rfl
set_option maxRecDepth 100000 in
theorem jlw_485 : lw_tbl[485]? = some (.methodLinkNest "PlanarFlow" 73 ⟨"PlanarFlow$Tape", "<init>", "()V"⟩ "PlanarFlow") := rfl
theorem jl_inst : ∀ k, k < 11 → ∃ n, Cond.instantiable (jm_cn k) n ∈ lw_tbl := by
  intro k hk
  match k, hk with
  | 0, _ => exact ⟨_, List.mem_of_getElem? jlw_340⟩
  | 1, _ => exact ⟨_, List.mem_of_getElem? jlw_381⟩
  | 2, _ => exact ⟨_, List.mem_of_getElem? jlw_137⟩
  | 3, _ => exact ⟨_, List.mem_of_getElem? jlw_468⟩
  | 4, _ => exact ⟨_, List.mem_of_getElem? jlw_371⟩
  | 5, _ => exact ⟨_, List.mem_of_getElem? jlw_400⟩
  | 6, _ => exact ⟨_, List.mem_of_getElem? jlw_394⟩
  | 7, _ => exact ⟨_, List.mem_of_getElem? jlw_484⟩
  | 8, _ => exact ⟨_, List.mem_of_getElem? jlw_143⟩
  | 9, _ => exact ⟨_, List.mem_of_getElem? jlw_129⟩
  | 10, _ => exact ⟨_, List.mem_of_getElem? jlw_1163⟩
  | k + 11, h => exact absurd h (by omega)
theorem jl_gsub {w : Cond} (h : w ∈ jm_g) : w ∈ lw_tbl := (List.mem_filter.mp h).1
theorem jl_cls {args : Array Value} {s : State} (hts : ∀ w ∈ lw_tbl, w.before args s = true) : ∃ (dC : Nat → ClassId) (dI : Nat → Nat → Nat), ∀ (k : Nat) (q : vw_C), vwCl[k]? = some q → u_Kn s q.1 q.2.1 q.2.2 (dC k) (dI k) := by
  have h0 : ∀ k : Nat, ∃ d : ClassId × (Nat → Nat), k < 11 → u_Kn s (jm_cn k) (jm_tt k) (jm_nf k) d.1 d.2 := by
    intro k
    by_cases hk : k < 11
    · obtain ⟨n, hn⟩ := jl_inst k hk
      obtain ⟨cC, iS, h⟩ := u_known (n := n) hts (fun w hw => jl_gsub (jm_uws hk w hw)) (hts _ hn)
      exact ⟨(cC, iS), fun _ => h⟩
    · exact ⟨((0 : Nat), fun _ => 0), fun h => absurd h hk⟩
  obtain ⟨d, hd⟩ := Classical.axiomOfChoice h0
  refine ⟨fun k => (d k).1, fun k => (d k).2, fun k q hq => ?_⟩
  have hk : k < 11 := (List.getElem?_eq_some_iff.mp hq).1
  rw [jm_cl_ok k hk] at hq
  cases hq
  exact hd k hk
theorem jl_arr {args : Array Value} {s : State} {ty : FieldType} (h : (Cond.arrayClass ty).before args s = true) : ∃ cA : ClassId, ArrOfT s cA ty ∧ s.vm.findClass ("[" ++ ty.toString) = some cA := by
  obtain ⟨c, k, comp, h1, h2, h3⟩ := Cond.arrayClass_spec h
  exact ⟨c, fun n z => ⟨fun k h => (by cases h), k, h2, comp, h3⟩, h1⟩
theorem jl_arrq {args : Array Value} {s : State} {C : String} (h : (Cond.arrayOver (.object C)).before args s = true) : ∃ cA : ClassId, ArrOfT s cA (.object C) ∧ va_RA s cA (.object C) := by
  obtain ⟨comp, c, k, h1, h2, h3, h4, h5⟩ := Cond.arrayOver_spec h
  exact ⟨c, fun n z => ⟨(fun k h => by cases h), k, h3, comp, h4⟩, k, comp, h3, h4, h1, h5⟩
def jl_fl : List Cond := flatC (Jvm.Cond.and given_1 narrow_1)
abbrev jl_tm (i : Nat) : Term := .string RX7 (jm_six.getD i 0)
set_option maxRecDepth 100000 in
theorem jl_f1 : ∀ i, i < 6 → (Cond.exactly (jl_tm i) "java/lang/String") ∈ jl_fl := by decide +kernel
set_option maxRecDepth 100000 in
theorem jl_f2 : ∀ i, i < 6 → (Cond.eq (.field (jl_tm i) "java/lang/String" "coder" "B") (.int 0)) ∈ jl_fl := by decide +kernel
set_option maxRecDepth 100000 in
theorem jl_f3 : ∀ i, i < 6 → (Cond.arrayOf (.field (jl_tm i) "java/lang/String" "value" "[B") .byte) ∈ jl_fl := by decide +kernel
set_option maxRecDepth 100000 in
theorem jl_f4 : ∀ i, i < 6 → (Cond.eq (.length (.field (jl_tm i) "java/lang/String" "value" "[B")) (.int (Int32.ofNat (jm_slen.getD i 0)))) ∈ jl_fl := by decide +kernel
set_option maxRecDepth 100000 in
theorem jl_f5 : ∀ i, i < 6 → ∀ j, j < jm_slen.getD i 0 → (Cond.eq (.elem (.field (jl_tm i) "java/lang/String" "value" "[B") (.int (Int32.ofNat j))) (.int ((jm_sbyt.getD i []).getD j 0))) ∈ jl_fl := by decide +kernel
set_option maxRecDepth 100000 in
theorem jl_f6 : ∀ i, i < 6 → ∀ j, j < 6 → i ≠ j → (Cond.not (Cond.eq (jl_tm i) (jl_tm j))) ∈ jl_fl ∨ (Cond.not (Cond.eq (jl_tm j) (jl_tm i))) ∈ jl_fl := by decide +kernel
set_option maxRecDepth 100000 in
theorem jl_f7 : ∀ i, i < 5 → (Cond.exactly (.string RX9 (jm_xix.getD i 0)) "java/lang/String") ∈ jl_fl := by decide +kernel
set_option maxRecDepth 100000 in
theorem jl_f8 : (Cond.isRef (.static Bundle.tN "UNASSIGNED_STACK" Bundle.steD)) ∈ jl_fl ∧ (Cond.isRef (.static Bundle.tN "SUPPRESSED_SENTINEL" Bundle.listD)) ∈ jl_fl ∧ (Cond.isRef (.static "jdk/internal/util/Preconditions" "SIOOBE_FORMATTER" "Ljava/util/function/BiFunction;")) ∈ jl_fl ∧ (Cond.eq (.static "java/lang/String" "COMPACT_STRINGS" "Z") (.int 1)) ∈ jl_fl := by decide +kernel
theorem jl_s6 : ∀ i, i < 6 → Cond.stringRef RX7 (jm_six.getD i 0) (jm_stx.getD i "") ∈ lw_tbl := by
  intro i hi
  match i, hi with
  | 0, _ => exact List.mem_of_getElem? jlw_582
  | 1, _ => exact List.mem_of_getElem? jlw_652
  | 2, _ => exact List.mem_of_getElem? jlw_669
  | 3, _ => exact List.mem_of_getElem? jlw_681
  | 4, _ => exact List.mem_of_getElem? jlw_682
  | 5, _ => exact List.mem_of_getElem? jlw_683
  | i + 6, h => exact absurd h (by omega)
theorem jl_s5 : ∀ i, i < 5 → Cond.stringRef RX9 (jm_xix.getD i 0) (jm_xtx.getD i "") ∈ lw_tbl := by
  intro i hi
  match i, hi with
  | 0, _ => exact List.mem_of_getElem? jlw_1083
  | 1, _ => exact List.mem_of_getElem? jlw_1116
  | 2, _ => exact List.mem_of_getElem? jlw_1136
  | 3, _ => exact List.mem_of_getElem? jlw_1144
  | 4, _ => exact List.mem_of_getElem? jlw_1153
  | i + 5, h => exact absurd h (by omega)
theorem jl_nw : ∀ w ∈ jc_Nw, w ∈ lw_tbl := by
  intro w hw
  simp only [jc_Nw, List.mem_cons, List.not_mem_nil, or_false] at hw
  rcases hw with rfl | rfl | rfl | rfl | rfl | rfl | rfl | rfl | rfl
  · exact List.mem_of_getElem? jlw_144
  · exact List.mem_of_getElem? jlw_337
  · exact List.mem_of_getElem? jlw_341
  · exact List.mem_of_getElem? jlw_372
  · exact List.mem_of_getElem? jlw_382
  · exact List.mem_of_getElem? jlw_395
  · exact List.mem_of_getElem? jlw_401
  · exact List.mem_of_getElem? jlw_469
  · exact List.mem_of_getElem? jlw_485
theorem jl_nt : ∀ w ∈ jc_Nw, w.onTables = true := by decide
theorem jl_kw : ∀ w ∈ jx_Kw, w ∈ lw_tbl := by
  intro w hw
  simp only [jx_Kw, List.mem_cons, List.not_mem_nil, or_false] at hw
  rcases hw with rfl | rfl | rfl | rfl
  · exact List.mem_of_getElem? jlw_1046
  · exact List.mem_of_getElem? jlw_1048
  · exact List.mem_of_getElem? jlw_1050
  · exact List.mem_of_getElem? jlw_1052
theorem jl_ctx {args : Array Value} {s : State} (hts : ∀ w ∈ lw_tbl, w.before args s = true) (hgv : (Jvm.Cond.and given_1 narrow_1).before args s = true) : ∃ (dC : Nat → ClassId) (dI : Nat → Nat → Nat) (cA : Nat → ClassId) (adS adV : Nat → Nat), jc_B dC dI cA s ∧ jm_ctx dC dI cA adS adV (fun q : Nat => s.heap.size ≤ q) s s.heap := by
  have hs : ∀ c ∈ jl_fl, c.before args s = true := flat_of_before _ hgv
  have hA : ∀ a : Nat, a < s.heap.size → ¬ (fun q : Nat => s.heap.size ≤ q) a := fun a h => Nat.not_le.mpr h
  obtain ⟨dC, dI, hC⟩ := jl_cls hts
  obtain ⟨c0, a0, b0⟩ := jl_arr (hts _ (List.mem_of_getElem? jlw_179))
  obtain ⟨c1, a1, b1⟩ := jl_arr (hts _ (List.mem_of_getElem? jlw_369))
  obtain ⟨c2, a2, b2⟩ := jl_arr (hts _ (List.mem_of_getElem? jlw_515))
  obtain ⟨c3, a3, b3⟩ := jl_arr (hts _ (List.mem_of_getElem? jlw_1714))
  obtain ⟨c4, a4, b4⟩ := jl_arrq (hts _ (List.mem_of_getElem? jlw_338))
  obtain ⟨adK, adV, hS6, hE6⟩ := vk_Sof (args := args) (s := s) (N := 6) (tm := jl_tm) (len := jm_slen) (byt := jm_sbyt) (A := fun q : Nat => s.heap.size ≤ q) (by decide) (fun i hi => hs _ (jl_f1 i hi)) (fun i hi => hs _ (jl_f2 i hi)) (fun i hi => hs _ (jl_f3 i hi)) (fun i hi => hs _ (jl_f4 i hi)) (fun i hi j hj => hs _ (jl_f5 i hi j hj)) (fun i j hi hj hij => (jl_f6 i hi j hj hij).imp (hs _) (hs _)) hA
  have hK : va_K (dC, dI) vwCl (jm_tys (fun k => match k with | 0 => c0 | 1 => c1 | 2 => c2 | 3 => c3 | _ => c4)) s := by
    refine ⟨hC, fun k q hk => ?_⟩
    match k, hk with
    | 0, hk => cases hk; exact ⟨a0, b0⟩
    | 1, hk => cases hk; exact ⟨a1, b1⟩
    | 2, hk => cases hk; exact ⟨a2, b2⟩
    | 3, hk => cases hk; exact ⟨a3, b3⟩
    | 4, hk => cases hk; exact ⟨a4, b4⟩
    | k + 5, hk => exact absurd hk (by simp [jm_tys])
  have e : ∀ i : Nat, (fun c : Nat => adK (c - 200)) (200 + i) = adK i := fun i => congrArg adK (Nat.add_sub_cancel_left 200 i)
  refine ⟨dC, dI, _, fun c => adK (c - 200), adV, ⟨hK, fun w hw => va_Nw.of (jl_nt w hw) (hts w (jl_nw w hw)), va_AO.of (hts _ (List.mem_of_getElem? jlw_338))⟩, hK, ?_, fun i hi => ?_, fun i hi => ?_, ?_, ?_, ?_, ?_, ?_⟩
  · rw [show (fun i => (fun c : Nat => adK (c - 200)) (200 + i)) = adK from funext e]
    exact hS6
  · rw [e i]
    exact vk_R.of (hts _ (jl_s6 i hi)) (hE6 i hi)
  · obtain ⟨a, c, cA, kA, q1, q2, q3, q4, q5, q6, -⟩ := Cond.exactly_spec (args := args) (first := s) (o := none) (s := s) (idx := []) (hs _ (jl_f7 i hi))
    exact ⟨a, vk_R.of (hts _ (jl_s5 i hi)) q1⟩
  · exact vx_Zqof (hts _ (List.mem_of_getElem? jlw_1071)) (hts _ (List.mem_of_getElem? jlw_124)) (hs _ jl_f8.1) hA
  · exact vx_Zqof (hts _ (List.mem_of_getElem? jlw_1073)) (hts _ (List.mem_of_getElem? jlw_124)) (hs _ jl_f8.2.1) hA
  · exact va_Zof (hts _ (List.mem_of_getElem? jlw_596)) (hts _ (List.mem_of_getElem? jlw_118)) (va_eqt (hs _ jl_f8.2.2.2)) hA
  · exact va_Zqof (hts _ (List.mem_of_getElem? jlw_612)) (hts _ (List.mem_of_getElem? jlw_120)) (hs _ jl_f8.2.2.1) hA
  · exact fun w hw => va_tabs (jx_kt w hw) rfl (hts w (jl_kw w hw))
