/-! STRINGS: length and charAt of the constants (the JDK's own code) -/
def jd_X (ad adV : Nat → Nat) (A : Nat → Prop) (U : State) : Prop := vk_S 6 jm_slen jm_sbyt (fun i => ad (200 + i)) adV A U U.heap ∧ va_Z "java/lang/String" "COMPACT_STRINGS" "Z" (.int 1) A U U.heap ∧ va_Zq "jdk/internal/util/Preconditions" "SIOOBE_FORMATTER" "Ljava/util/function/BiFunction;" A U U.heap
theorem jd_X_to {ad adV : Nat → Nat} {A : Nat → Prop} {u U : State} (h : jd_X ad adV A u) (hvm : u.vm.Alike U.vm) (hh : U.heap = u.heap) : jd_X ad adV A U := by
  unfold jd_X
  rw [hh]
  exact ⟨h.1.moved hvm, h.2.1.moved hvm, h.2.2.moved hvm⟩
theorem jd_blind {ad adV : Nat → Nat} {A : Nat → Prop} {as : List Value} : FrameBlind (va_Pc as (jd_X ad adV A)) := fun _ U _ _ h => ⟨h.1, jd_X_to h.2 (Vm.Alike.refl U.vm) rfl⟩
abbrev jd_Q (v : Option Value) : Array Value → State → Outcome → State → Prop := fun _ s0 oc t => oc = .returned v ∧ t.heap = s0.heap
def jd_ws (y : MethodName) (b : ByteArray) (n : Nat) (r : Option FieldType) : List Cond := Cond.code y b n r :: jm_g
set_option maxRecDepth 100000 in
theorem jd_t : lw_tbl[118]? = some (.initialized "java/lang/String") ∧ lw_tbl[119]? = some (.initialized "java/lang/StringLatin1") ∧ lw_tbl[120]? = some (.initialized "jdk/internal/util/Preconditions") ∧ lw_tbl[588]? = some (.instanceMethod yJ0_length_8abf5) ∧ lw_tbl[589]? = some (.selects "java/lang/String" yJ0_length_8abf5 yJ0_length_8abf5) ∧ lw_tbl[591]? = some (.methodLink "java/lang/String" 335 yJ0_coder_7d493) ∧ lw_tbl[592]? = some (.instanceMethod yJ0_coder_7d493) ∧ lw_tbl[593]? = some (.selects "java/lang/String" yJ0_coder_7d493 yJ0_coder_7d493) ∧ lw_tbl[595]? = some (.fieldLink "java/lang/String" 38 "java/lang/String" "COMPACT_STRINGS" "Z") ∧ lw_tbl[598]? = some (.instanceMethod yJ0_charAt_5068e) ∧ lw_tbl[599]? = some (.selects "java/lang/String" yJ0_charAt_5068e yJ0_charAt_5068e) := by decide +kernel
set_option maxRecDepth 100000 in
theorem jd_u : lw_tbl[601]? = some (.methodLink "java/lang/String" 492 yJ0_isLatin1_aae02) ∧ lw_tbl[602]? = some (.instanceMethod yJ0_isLatin1_aae02) ∧ lw_tbl[603]? = some (.selects "java/lang/String" yJ0_isLatin1_aae02 yJ0_isLatin1_aae02) ∧ lw_tbl[605]? = some (.methodLink "java/lang/String" 495 yJ1_charAt_3b067) ∧ lw_tbl[606]? = some (.static yJ1_charAt_3b067) ∧ lw_tbl[608]? = some (.methodLink "java/lang/StringLatin1" 9 yJ0_checkIndex_df160) ∧ lw_tbl[609]? = some (.static yJ0_checkIndex_df160) ∧ lw_tbl[611]? = some (.fieldLink "java/lang/String" 1053 "jdk/internal/util/Preconditions" "SIOOBE_FORMATTER" "Ljava/util/function/BiFunction;") ∧ lw_tbl[613]? = some (.methodLink "java/lang/String" 1059 yJ3_checkIndex_8e157) ∧ lw_tbl[614]? = some (.static yJ3_checkIndex_8e157) ∧ lw_tbl[1730]? = some (.fieldLink "java/lang/String" 9 "java/lang/String" "value" "[B") ∧ lw_tbl[1731]? = some (.fieldLink "java/lang/String" 15 "java/lang/String" "coder" "B") := by decide +kernel
set_option maxRecDepth 100000 in
theorem jd_c1 : lw_tbl[590]? = some (.code yJ0_length_8abf5 cJ0_length_8abf5 1 (some .int)) := rfl
set_option maxRecDepth 100000 in
theorem jd_c2 : lw_tbl[594]? = some (.code yJ0_coder_7d493 cJ0_coder_7d493 1 (some .byte)) := rfl
set_option maxRecDepth 100000 in
theorem jd_c3 : lw_tbl[600]? = some (.code yJ0_charAt_5068e cJ0_charAt_5068e 2 (some .char)) := rfl
set_option maxRecDepth 100000 in
theorem jd_c4 : lw_tbl[604]? = some (.code yJ0_isLatin1_aae02 cJ0_isLatin1_aae02 1 (some .boolean)) := rfl
set_option maxRecDepth 100000 in
theorem jd_c5 : lw_tbl[607]? = some (.code yJ1_charAt_3b067 cJ1_charAt_3b067 2 (some .char)) := rfl
set_option maxRecDepth 100000 in
theorem jd_c6 : lw_tbl[610]? = some (.code yJ0_checkIndex_df160 cJ0_checkIndex_df160 2 none) := rfl
set_option maxRecDepth 100000 in
theorem jd_c7 : lw_tbl[615]? = some (.code yJ3_checkIndex_8e157 cJ3_checkIndex_8e157 3 (some .int)) := rfl
theorem jd_goodV {own : String} {idx : Nat} {y : MethodName} {b : ByteArray} {n : Nat} {r : Option FieldType} (h1 : Cond.methodLink own idx y ∈ jm_g) (h2 : Cond.instanceMethod y ∈ jm_g) (h3 : Cond.selects y.cls y y ∈ jm_g) (h4 : Cond.initialized y.cls ∈ jm_g) (h5 : Cond.code y b n r ∈ jm_g) : GoodIn jm_g (wsV own idx y.cls y (jd_ws y b n r)) := by
  intro w hw
  unfold wsV at hw
  refine jm_g_good w ?_
  rcases List.mem_append.mp hw with hw | hw
  · simp only [List.mem_cons, List.not_mem_nil, or_false] at hw
    rcases hw with rfl | rfl | rfl | rfl
    · exact h1
    · exact h2
    · exact h3
    · exact h4
  · rcases List.mem_cons.mp hw with rfl | hw
    · exact h5
    · exact hw
theorem jd_goodS {own : String} {idx : Nat} {y : MethodName} {b : ByteArray} {n : Nat} {r : Option FieldType} (h1 : Cond.methodLink own idx y ∈ jm_g) (h2 : Cond.static y ∈ jm_g) (h4 : Cond.initialized y.cls ∈ jm_g) (h5 : Cond.code y b n r ∈ jm_g) : GoodIn jm_g (va_wsS own idx y (jd_ws y b n r)) := by
  intro w hw
  unfold va_wsS at hw
  refine jm_g_good w ?_
  rcases List.mem_append.mp hw with hw | hw
  · simp only [List.mem_cons, List.not_mem_nil, or_false] at hw
    rcases hw with rfl | rfl | rfl
    · exact h1
    · exact h2
    · exact h4
  · rcases List.mem_cons.mp hw with rfl | hw
    · exact h5
    · exact hw
section JD
variable {p : Program} {l : Launch} {e : Env} {R : Room} {s : State} {mid : MethodId} {args : Array Value} {below : List Frame} {meth : Method} {c : Code} {H : Heap} {locs : List Loc} {cells slots : Nat} {FQ : State → Prop}
theorem jd_after {pc : Nat} {JL : Array Slot} {st0 rest : List Value} {r1 : Option Value} {xs : Array Value} (hr : va_Run p l e R s mid args below meth c H locs cells slots 0 0 (F0 mid pc JL st0) rest (jd_Q r1 xs) (fun _ => False)) (kk : W p l e R s mid args below meth c H locs cells slots FQ (F0 mid (pc + 3) JL (r1.toList ++ rest))) : W p l e R s mid args below meth c H locs cells slots FQ (F0 mid pc JL st0) := by
  intro T hT X
  obtain ⟨v, st₀, t, T', L, h0, X', hL, e1, e2, ⟨q1, q2⟩, st1⟩ := hr T hT X
  cases q1
  have hL0 : L = [] := by
    cases L with
    | nil => rfl
    | cons a L => exact (hL a List.mem_cons_self).elim
  subst hL0
  rw [List.append_nil] at X'
  obtain ⟨t2, a1, b1⟩ := kk T' (by rw [e1, q2, h0]) X'
  exact ⟨t2, st1 t2 a1, b1⟩
/-- the start of a contract of the JDK's own code that changes nothing -/
theorem jd_start {y : MethodName} {b : ByteArray} {n : Nat} {r : Option FieldType} {fr lo : Nat} {as : List Value} {ad adV : Nat → Nat} {A : Nat → Prop} {v : Option Value} (hy : plainName y.cls = true) (hn : (lg_sl as).length ≤ n)
    (body : ∀ (p : Program) (e : Env) (s : State) (mid : MethodId) (below : List Frame) (meth : Method) (c : Code) (JL : Array Slot), p.tables.exec = Jvm.exec → c.code = b → c.maxLocals = n → meth.sig.returnType = r → meth.locks = false → s.vm.findClass y.cls = some mid.cls → (∀ w ∈ jm_g, w.before as.toArray s = true) → jd_X ad adV A s → lv_has JL n (lv_args 0 as) → W p l e ({ frames := fr, cells := 0, slots := 0, locals := lo }) s mid as.toArray below meth c s.heap [] 0 0 (MQ below (jd_Q v) as.toArray s 0 0 (fun _ => False)) (F0 mid 0 JL [])) :
    Met l y (jd_ws y b n r) ({ frames := fr, cells := 0, slots := 0, locals := lo }) (va_Pc as (jd_X ad adV A)) (jd_Q v) 0 0 (fun _ => False) := by
  refine Met.ofW (cc := b) (maxL := n) (ret := r) hy rfl ?_
  intro p e s mid args below meth c s₁ B hml hv
  obtain ⟨rfl, hX⟩ := hv
  have hl := lv_entry as (n := n) hn
  rw [lg_entry_eq]
  exact body p e s mid below meth c _ B.exec B.bytes hml B.returns B.notSynchronized (findClass_of_methodNamed B.named) (fun w h => atoms_spec (ws := jd_ws y b n r) B.pre w (List.mem_cons_of_mem _ h)) hX hl
end JD
section JDM
variable (l : Launch) (ad adV : Nat → Nat) (A : Nat → Prop)
theorem jd_coder (i : Nat) (hi : i < 6) : Met l yJ0_coder_7d493 (jd_ws yJ0_coder_7d493 cJ0_coder_7d493 1 (some .byte)) ({ frames := 0, cells := 0, slots := 0, locals := 0 }) (va_Pc [.ref (ad (200 + i))] (jd_X ad adV A)) (jd_Q (some (.int 0))) 0 0 (fun _ => False) := by
  refine jd_start (by decide) (Nat.le_refl _) (fun p e s mid below meth c JL hx hb hml hr hlocks hown hts hX hl => ?_)
  have hl : lv_has JL 1 [(0, .ref (ad (200 + i)))] := hl
  have hS : va_S A s.heap s.heap [] := va_S.rf
  refine va_gets hx hb hX.2.1 hS hown (hts _ (jm_in_g _ jd_t.2.2.2.2.2.2.2.2.1 rfl)) (fun _ h => h) (show decode cJ0_coder_7d493 0 = .ok (.getstatic 38, 3) by decide +kernel) ?_
  refine lv_if_eq (tgt := 13) hx hb (show decode cJ0_coder_7d493 3 = .ok (.ifCond .eq 10, 3) by decide +kernel) (by decide) (fun q => absurd q (by decide)) (fun _ => ?_)
  refine lv_aload_n hx hb (show decode cJ0_coder_7d493 6 = .ok (.aload_n 0, 1) by decide +kernel) rfl (lv_at hl 0 rfl) ?_
  refine vk_getf hx hb (hX.1.1 i hi).2.1 hS hown (hts _ (jm_in_g _ jd_u.2.2.2.2.2.2.2.2.2.2.2 rfl)) (fun _ h => h) (show decode cJ0_coder_7d493 7 = .ok (.getfield 15, 3) by decide +kernel) ?_
  refine lv_goto (tgt := 14) hx hb (show decode cJ0_coder_7d493 10 = .ok (.goto 4, 3) by decide +kernel) (by decide) ?_
  exact W.zret hx hb hr rfl (fun t ht _ => ⟨rfl, ht⟩) (fun q hq => nomatch hq) (show decode cJ0_coder_7d493 14 = .ok (.ireturn, 1) by decide +kernel)
theorem jd_latin (i : Nat) (hi : i < 6) : Met l yJ0_isLatin1_aae02 (jd_ws yJ0_isLatin1_aae02 cJ0_isLatin1_aae02 1 (some .boolean)) ({ frames := 0, cells := 0, slots := 0, locals := 0 }) (va_Pc [.ref (ad (200 + i))] (jd_X ad adV A)) (jd_Q (some (.int 1))) 0 0 (fun _ => False) := by
  refine jd_start (by decide) (Nat.le_refl _) (fun p e s mid below meth c JL hx hb hml hr hlocks hown hts hX hl => ?_)
  have hl : lv_has JL 1 [(0, .ref (ad (200 + i)))] := hl
  have hS : va_S A s.heap s.heap [] := va_S.rf
  refine va_gets hx hb hX.2.1 hS hown (hts _ (jm_in_g _ jd_t.2.2.2.2.2.2.2.2.1 rfl)) (fun _ h => h) (show decode cJ0_isLatin1_aae02 0 = .ok (.getstatic 38, 3) by decide +kernel) ?_
  refine lv_if_eq (tgt := 17) hx hb (show decode cJ0_isLatin1_aae02 3 = .ok (.ifCond .eq 14, 3) by decide +kernel) (by decide) (fun q => absurd q (by decide)) (fun _ => ?_)
  refine lv_aload_n hx hb (show decode cJ0_isLatin1_aae02 6 = .ok (.aload_n 0, 1) by decide +kernel) rfl (lv_at hl 0 rfl) ?_
  refine vk_getf hx hb (hX.1.1 i hi).2.1 hS hown (hts _ (jm_in_g _ jd_u.2.2.2.2.2.2.2.2.2.2.2 rfl)) (fun _ h => h) (show decode cJ0_isLatin1_aae02 7 = .ok (.getfield 15, 3) by decide +kernel) ?_
  refine lv_if_ne (tgt := 17) hx hb (show decode cJ0_isLatin1_aae02 10 = .ok (.ifCond .ne 7, 3) by decide +kernel) (by decide) (fun q => absurd rfl q) (fun _ => ?_)
  refine lv_iconst (v := 1) hx hb (show decode cJ0_isLatin1_aae02 13 = .ok (.iconst 1, 1) by decide +kernel) (by decide) ?_
  refine lv_goto (tgt := 18) hx hb (show decode cJ0_isLatin1_aae02 14 = .ok (.goto 4, 3) by decide +kernel) (by decide) ?_
  exact W.zret hx hb hr rfl (fun t ht _ => ⟨rfl, ht⟩) (fun q hq => nomatch hq) (show decode cJ0_isLatin1_aae02 18 = .ok (.ireturn, 1) by decide +kernel)
theorem jd_len (i : Nat) (hi : i < 6) : Met l yJ0_length_8abf5 (jd_ws yJ0_length_8abf5 cJ0_length_8abf5 1 (some .int)) ({ frames := 1, cells := 0, slots := 0, locals := 20 }) (va_Pc [.ref (ad (200 + i))] (jd_X ad adV A)) (jd_Q (some (.int (Int32.ofNat (jm_slen.getD i 0))))) 0 0 (fun _ => False) := by
  refine jd_start (by decide) (Nat.le_refl _) (fun p e s mid below meth c JL hx hb hml hr hlocks hown hts hX hl => ?_)
  have hl : lv_has JL 1 [(0, .ref (ad (200 + i)))] := hl
  have hS : va_S A s.heap s.heap [] := va_S.rf
  refine lv_aload_n hx hb (show decode cJ0_length_8abf5 0 = .ok (.aload_n 0, 1) by decide +kernel) rfl (lv_at hl 0 rfl) ?_
  refine vk_getf hx hb (hX.1.1 i hi).2.2.1 hS hown (hts _ (jm_in_g _ jd_u.2.2.2.2.2.2.2.2.2.2.1 rfl)) (fun _ h => h) (show decode cJ0_length_8abf5 1 = .ok (.getfield 9, 3) by decide +kernel) ?_
  refine va_tlen hx hb (hX.1.1 i hi).2.2.2 hS rfl (show decode cJ0_length_8abf5 4 = .ok (.arraylength, 1) by decide +kernel) ?_
  refine lv_aload_n hx hb (show decode cJ0_length_8abf5 5 = .ok (.aload_n 0, 1) by decide +kernel) rfl (lv_at hl 0 rfl) ?_
  refine jd_after (r1 := some (.int 0)) (va_runV (As := []) (rest := [.int (Int32.ofNat (jm_slen.getD i 0))]) (b := ad (200 + i)) ⟨hx, hb, hml, hown, hts⟩ (jd_coder l ad adV A i hi) (cwV 0 hts (jd_goodV (jm_in_g _ jd_t.2.2.2.2.2.1 rfl) (jm_in_g _ jd_t.2.2.2.2.2.2.1 rfl) (jm_in_g _ jd_t.2.2.2.2.2.2.2.1 rfl) (jm_in_g _ jd_t.1 rfl) (jm_in_g _ jd_c2 rfl)) rfl rfl rfl (by decide +kernel) ⟨Nat.le_refl _, Nat.le_refl _⟩) ⟨jd_blind, vk_recv (adK := fun i => ad (200 + i)) (i := i) hX.1 hi hS, fun U hU hW => ⟨rfl, jd_X_to hX hW.alike hU⟩⟩ rfl rfl hl.1 rfl (lv_room (Nat.le_of_ble_eq_true rfl)) (show decode cJ0_length_8abf5 6 = .ok (.invokevirtual 335, 3) by decide +kernel) ⟨Nat.zero_le _, Nat.zero_le _⟩) ?_
  refine lv_ishr hx hb (show decode cJ0_length_8abf5 9 = .ok (.ishr, 1) by decide +kernel) ?_
  have e0 : Int32.ofNat (jm_slen.getD i 0) >>> ((0 : Int32) &&& 31) = Int32.ofNat (jm_slen.getD i 0) := by
    have : ∀ j, j < 6 → Int32.ofNat (jm_slen.getD j 0) >>> ((0 : Int32) &&& 31) = Int32.ofNat (jm_slen.getD j 0) := by decide +kernel
    exact this i hi
  rw [e0]
  exact W.iret hx hb hr (fun t ht _ => ⟨rfl, ht⟩) (fun q hq => nomatch hq) (show decode cJ0_length_8abf5 10 = .ok (.ireturn, 1) by decide +kernel)
theorem jd_pre (x y : Int32) (v : Value) (hv : v.category = 1) (h0 : ¬ x < 0) (h1 : x < y) : Met l yJ3_checkIndex_8e157 (jd_ws yJ3_checkIndex_8e157 cJ3_checkIndex_8e157 3 (some .int)) ({ frames := 0, cells := 0, slots := 0, locals := 0 }) (va_Pc [.int x, .int y, v] (jd_X ad adV A)) (jd_Q (some (.int x))) 0 0 (fun _ => False) := by
  refine jd_start (by decide) (by cases v <;> first | exact Nat.le_refl _ | exact absurd (show (2 : Nat) = 1 from hv) (by decide)) (fun p e s mid below meth c JL hx hb hml hr hlocks hown hts hX hl => ?_)
  have hl : lv_has JL 3 [(0, .int x), (1, .int y), (2, v)] := hl
  refine lv_iload_n hx hb (show decode cJ3_checkIndex_8e157 0 = .ok (.iload_n 0, 1) by decide +kernel) rfl (lv_at hl 0 rfl) ?_
  refine lv_if_lt (tgt := 9) hx hb (show decode cJ3_checkIndex_8e157 1 = .ok (.ifCond .lt 8, 3) by decide +kernel) (by decide) (fun q => absurd q h0) (fun _ => ?_)
  refine lv_iload_n hx hb (show decode cJ3_checkIndex_8e157 4 = .ok (.iload_n 0, 1) by decide +kernel) rfl (lv_at hl 0 rfl) ?_
  refine lv_iload_n hx hb (show decode cJ3_checkIndex_8e157 5 = .ok (.iload_n 1, 1) by decide +kernel) rfl (lv_at hl 1 rfl) ?_
  refine lv_icmp_lt (tgt := 16) hx hb (show decode cJ3_checkIndex_8e157 6 = .ok (.if_icmp .lt 10, 3) by decide +kernel) (by decide) (fun _ => ?_) (fun q => absurd h1 q)
  refine lv_iload_n hx hb (show decode cJ3_checkIndex_8e157 16 = .ok (.iload_n 0, 1) by decide +kernel) rfl (lv_at hl 0 rfl) ?_
  exact W.iret hx hb hr (fun t ht _ => ⟨rfl, ht⟩) (fun q hq => nomatch hq) (show decode cJ3_checkIndex_8e157 17 = .ok (.ireturn, 1) by decide +kernel)
theorem jd_chk (x y : Int32) (h0 : ¬ x < 0) (h1 : x < y) : Met l yJ0_checkIndex_df160 (jd_ws yJ0_checkIndex_df160 cJ0_checkIndex_df160 2 none) ({ frames := 1, cells := 0, slots := 0, locals := 22 }) (va_Pc [.int x, .int y] (jd_X ad adV A)) (jd_Q none) 0 0 (fun _ => False) := by
  refine jd_start (by decide) (Nat.le_refl _) (fun p e s mid below meth c JL hx hb hml hr hlocks hown hts hX hl => ?_)
  have hl : lv_has JL 2 [(0, .int x), (1, .int y)] := hl
  have hS : va_S A s.heap s.heap [] := va_S.rf
  refine lv_iload_n hx hb (show decode cJ0_checkIndex_df160 0 = .ok (.iload_n 0, 1) by decide +kernel) rfl (lv_at hl 0 rfl) ?_
  refine lv_iload_n hx hb (show decode cJ0_checkIndex_df160 1 = .ok (.iload_n 1, 1) by decide +kernel) rfl (lv_at hl 1 rfl) ?_
  have go : ∀ (v : Value), v.category = 1 → va_Z "jdk/internal/util/Preconditions" "SIOOBE_FORMATTER" "Ljava/util/function/BiFunction;" v A s s.heap → W p l e ({ frames := 1, cells := 0, slots := 0, locals := 22 }) s mid ([.int x, .int y] : List Value).toArray below meth c s.heap [] 0 0 (MQ below (jd_Q none) ([.int x, .int y] : List Value).toArray s 0 0 (fun _ => False)) (F0 mid 2 JL [.int y, .int x]) := by
    intro v hv hZ
    refine va_gets hx hb hZ hS hown (hts _ (jm_in_g _ jd_u.2.2.2.2.2.2.2.1 rfl)) (fun _ h => h) (show decode cJ0_checkIndex_df160 2 = .ok (.getstatic 1053, 3) by decide +kernel) ?_
    refine jd_after (r1 := some (.int x)) (va_runS (As := [.int x, .int y, v]) (rest := []) ⟨hx, hb, hml, hown, hts⟩ (jd_pre l ad adV A x y v hv h0 h1) (va_cwS 3 hts (jd_goodS (jm_in_g _ jd_u.2.2.2.2.2.2.2.2.1 rfl) (jm_in_g _ jd_u.2.2.2.2.2.2.2.2.2.1 rfl) (jm_in_g _ jd_t.2.2.1 rfl) (jm_in_g _ jd_c7 rfl)) rfl rfl rfl (by decide +kernel) ⟨Nat.le_refl _, Nat.le_refl _⟩) ⟨jd_blind, fun U hU hW => ⟨rfl, jd_X_to hX hW.alike hU⟩⟩ rfl rfl hl.1 rfl (lv_room (Nat.le_of_ble_eq_true rfl)) (show decode cJ0_checkIndex_df160 5 = .ok (.invokestatic 1059, 3) by decide +kernel) ⟨Nat.zero_le _, Nat.zero_le _⟩) ?_
    refine lv_pop hx hb (show decode cJ0_checkIndex_df160 8 = .ok (.pop, 1) by decide +kernel) rfl ?_
    exact W.vret hx hb hr (fun t ht _ => ⟨rfl, ht⟩) (fun q hq => nomatch hq) (show decode cJ0_checkIndex_df160 9 = .ok (.return_, 1) by decide +kernel)
  rcases hX.2.2 with hZ | ⟨t, hZ⟩
  · exact go _ rfl hZ
  · exact go _ rfl hZ
/-- the char at a place of a constant -/
def jd_ch (i j : Nat) : Int32 := Int32.ofInt (jm_chr (jm_str i) j)
theorem jd_ch_ok : ∀ i, i < 6 → ∀ j, j < jm_slen.getD i 0 → ((((jm_sbyt.getD i []).getD j 0) &&& 255).toUInt32 % 65536).toInt32 = jd_ch i j ∧ narrow .char (.int (jd_ch i j)) = .int (jd_ch i j) ∧ jm_slen.getD i 0 = (jm_str i).length ∧ 0 ≤ jm_chr (jm_str i) j ∧ jm_chr (jm_str i) j ≤ 255 := by decide +kernel
theorem jd_lat (i j : Nat) (hi : i < 6) (hj : j < jm_slen.getD i 0) (hj2 : j < 100) : Met l yJ1_charAt_3b067 (jd_ws yJ1_charAt_3b067 cJ1_charAt_3b067 2 (some .char)) ({ frames := 2, cells := 0, slots := 0, locals := 43 }) (va_Pc [.ref (adV i), .int (nI j)] (jd_X ad adV A)) (jd_Q (some (.int (jd_ch i j)))) 0 0 (fun _ => False) := by
  refine jd_start (by decide) (Nat.le_refl _) (fun p e s mid below meth c JL hx hb hml hr hlocks hown hts hX hl => ?_)
  have hl : lv_has JL 2 [(0, .ref (adV i)), (1, .int (nI j))] := hl
  have hS : va_S A s.heap s.heap [] := va_S.rf
  have hle : jm_slen.getD i 0 < 2 ^ 31 := by
    have : ∀ i, i < 6 → jm_slen.getD i 0 < 2 ^ 31 := by decide +kernel
    exact this i hi
  obtain ⟨c1, c2, -⟩ := jd_ch_ok i hi j hj
  refine lv_iload_n hx hb (show decode cJ1_charAt_3b067 0 = .ok (.iload_n 1, 1) by decide +kernel) rfl (lv_at hl 1 rfl) ?_
  refine lv_aload_n hx hb (show decode cJ1_charAt_3b067 1 = .ok (.aload_n 0, 1) by decide +kernel) rfl (lv_at hl 0 rfl) ?_
  refine va_tlen hx hb (hX.1.1 i hi).2.2.2 hS rfl (show decode cJ1_charAt_3b067 2 = .ok (.arraylength, 1) by decide +kernel) ?_
  refine jd_after (r1 := none) (va_runS (As := [.int (nI j), .int (Int32.ofNat (jm_slen.getD i 0))]) (rest := []) ⟨hx, hb, hml, hown, hts⟩ (jd_chk l ad adV A (nI j) (Int32.ofNat (jm_slen.getD i 0)) (nI_pos (by omega)) (nI_lt hj hle)) (va_cwS 2 hts (jd_goodS (jm_in_g _ jd_u.2.2.2.2.2.1 rfl) (jm_in_g _ jd_u.2.2.2.2.2.2.1 rfl) (jm_in_g _ jd_t.1 rfl) (jm_in_g _ jd_c6 rfl)) rfl rfl rfl (by decide +kernel) ⟨Nat.le_refl _, Nat.le_refl _⟩) ⟨jd_blind, fun U hU hW => ⟨rfl, jd_X_to hX hW.alike hU⟩⟩ rfl rfl hl.1 rfl (lv_room (Nat.le_of_ble_eq_true rfl)) (show decode cJ1_charAt_3b067 3 = .ok (.invokestatic 9, 3) by decide +kernel) ⟨Nat.zero_le _, Nat.zero_le _⟩) ?_
  refine lv_aload_n hx hb (show decode cJ1_charAt_3b067 6 = .ok (.aload_n 0, 1) by decide +kernel) rfl (lv_at hl 0 rfl) ?_
  refine lv_iload_n hx hb (show decode cJ1_charAt_3b067 7 = .ok (.iload_n 1, 1) by decide +kernel) rfl (lv_at hl 1 rfl) ?_
  refine va_tb hx hb (hX.1.1 i hi).2.2.2 hS (vp_in_nI hj hle) rfl (show decode cJ1_charAt_3b067 8 = .ok (.baload, 1) by decide +kernel) ?_
  rw [nI_clamp (by omega)]
  refine lv_sipush (v := 255) hx hb (show decode cJ1_charAt_3b067 9 = .ok (.sipush 255, 3) by decide +kernel) (by decide) ?_
  refine lv_iand hx hb (show decode cJ1_charAt_3b067 12 = .ok (.iand, 1) by decide +kernel) ?_
  refine lv_i2c (v := jd_ch i j) hx hb (show decode cJ1_charAt_3b067 13 = .ok (.i2c, 1) by decide +kernel) c1 ?_
  exact W.zret hx hb hr c2 (fun t ht _ => ⟨rfl, ht⟩) (fun q hq => nomatch hq) (show decode cJ1_charAt_3b067 14 = .ok (.ireturn, 1) by decide +kernel)
theorem jd_char (i j : Nat) (hi : i < 6) (hj : j < jm_slen.getD i 0) (hj2 : j < 100) : Met l yJ0_charAt_5068e (jd_ws yJ0_charAt_5068e cJ0_charAt_5068e 2 (some .char)) ({ frames := 3, cells := 0, slots := 0, locals := 64 }) (va_Pc [.ref (ad (200 + i)), .int (nI j)] (jd_X ad adV A)) (jd_Q (some (.int (jd_ch i j)))) 0 0 (fun _ => False) := by
  refine jd_start (by decide) (Nat.le_refl _) (fun p e s mid below meth c JL hx hb hml hr hlocks hown hts hX hl => ?_)
  have hl : lv_has JL 2 [(0, .ref (ad (200 + i))), (1, .int (nI j))] := hl
  have hS : va_S A s.heap s.heap [] := va_S.rf
  obtain ⟨c1, c2, -⟩ := jd_ch_ok i hi j hj
  refine lv_aload_n hx hb (show decode cJ0_charAt_5068e 0 = .ok (.aload_n 0, 1) by decide +kernel) rfl (lv_at hl 0 rfl) ?_
  refine jd_after (r1 := some (.int 1)) (va_runV (As := []) (rest := []) (b := ad (200 + i)) ⟨hx, hb, hml, hown, hts⟩ (jd_latin l ad adV A i hi) (cwV 0 hts (jd_goodV (jm_in_g _ jd_u.1 rfl) (jm_in_g _ jd_u.2.1 rfl) (jm_in_g _ jd_u.2.2.1 rfl) (jm_in_g _ jd_t.1 rfl) (jm_in_g _ jd_c4 rfl)) rfl rfl rfl (by decide +kernel) ⟨Nat.le_of_ble_eq_true rfl, Nat.le_of_ble_eq_true rfl⟩) ⟨jd_blind, vk_recv (adK := fun i => ad (200 + i)) (i := i) hX.1 hi hS, fun U hU hW => ⟨rfl, jd_X_to hX hW.alike hU⟩⟩ rfl rfl hl.1 rfl (lv_room (Nat.le_of_ble_eq_true rfl)) (show decode cJ0_charAt_5068e 1 = .ok (.invokevirtual 492, 3) by decide +kernel) ⟨Nat.zero_le _, Nat.zero_le _⟩) ?_
  refine lv_if_eq (tgt := 16) hx hb (show decode cJ0_charAt_5068e 4 = .ok (.ifCond .eq 12, 3) by decide +kernel) (by decide) (fun q => absurd q (by decide)) (fun _ => ?_)
  refine lv_aload_n hx hb (show decode cJ0_charAt_5068e 7 = .ok (.aload_n 0, 1) by decide +kernel) rfl (lv_at hl 0 rfl) ?_
  refine vk_getf hx hb (hX.1.1 i hi).2.2.1 hS hown (hts _ (jm_in_g _ jd_u.2.2.2.2.2.2.2.2.2.2.1 rfl)) (fun _ h => h) (show decode cJ0_charAt_5068e 8 = .ok (.getfield 9, 3) by decide +kernel) ?_
  refine lv_iload_n hx hb (show decode cJ0_charAt_5068e 11 = .ok (.iload_n 1, 1) by decide +kernel) rfl (lv_at hl 1 rfl) ?_
  refine jd_after (r1 := some (.int (jd_ch i j))) (va_runS (As := [.ref (adV i), .int (nI j)]) (rest := []) ⟨hx, hb, hml, hown, hts⟩ (jd_lat l ad adV A i j hi hj hj2) (va_cwS 2 hts (jd_goodS (jm_in_g _ jd_u.2.2.2.1 rfl) (jm_in_g _ jd_u.2.2.2.2.1 rfl) (jm_in_g _ jd_t.2.1 rfl) (jm_in_g _ jd_c5 rfl)) rfl rfl rfl (by decide +kernel) ⟨Nat.le_refl _, Nat.le_refl _⟩) ⟨jd_blind, fun U hU hW => ⟨rfl, jd_X_to hX hW.alike hU⟩⟩ rfl rfl hl.1 rfl (lv_room (Nat.le_of_ble_eq_true rfl)) (show decode cJ0_charAt_5068e 12 = .ok (.invokestatic 495, 3) by decide +kernel) ⟨Nat.zero_le _, Nat.zero_le _⟩) ?_
  exact W.zret hx hb hr c2 (fun t ht _ => ⟨rfl, ht⟩) (fun q hq => nomatch hq) (show decode cJ0_charAt_5068e 15 = .ok (.ireturn, 1) by decide +kernel)
end JDM
