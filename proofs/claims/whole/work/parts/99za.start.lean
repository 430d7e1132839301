/-! THE CLAIM OUT OF ONE WALK OF THE LAW'S BODY. Your part is whole_start (and what it stands on); all else here is the same for every law, but numbers. -/
def R_law : String := "PlanarFlowLaw"
def lw_P (b : Addr) (xs : List Int32) (args : Array Value) (s : State) : Prop := args = #[.ref b] ∧ s.IntsAt b xs ∧ xs.length ≤ 3072 ∧ (Jvm.Cond.and given_1 narrow_1).before args s = true
def lw_Q (_ : Array Value) (s : State) (o : Outcome) (t : State) : Prop := o = .returned (some (.int 1)) ∧ Framed s o t [] 601024 7293034
def lw_Z (below : List Frame) (a : Array Value) (s : State) : State → Prop := fun t => ∃ o, t.status = .running ∧ Ended t below o ∧ lw_Q a s o t
/-- the law's own end, with 1 on the stack, nothing written that was there before, its room as the claim has it -/
theorem lw_ret {p : Program} {l : Launch} {e : Env} {s : State} {m : MethodId} {below : List Frame} {meth : Method} {c : Code} {b : Nat} (hx : p.tables.exec = Jvm.exec) (hb : c.code = code) (hr : meth.sig.returnType = ret) (hlocks : meth.locks = false) {pc : Nat} {H : Heap} {ls : Array Slot} (hdg : decode code pc = .ok (.ireturn, 1)) : W p l e room_1 s m #[Value.ref b] below meth c H [] 601024 7293034 (lw_Z below #[Value.ref b] s) (F0 m pc ls [.int 1]) := by
  intro T hT X
  obtain ⟨fs, hret, hrun, hended, hW, hframe⟩ := X.leave (v := some (.int 1)) (hlocks := hlocks) (fun h => by rw [hr] at h; cases h)
  have hmeth' : T.vm.method? m = some meth := X.method'
  refine ⟨T.setFrames fs, ?_, .returned (some (.int 1)), hrun, hended, rfl, ⟨_, rfl⟩, hW, hframe⟩
  jvm_step X.here [X.here.top, hx, hb, hdg, hmeth', hr, ret, narrow_b1]
  (try refine ⟨rfl, ?_⟩); (try refine ⟨rfl, ?_⟩)
  first | (intro acts; rw [hret _ acts rfl rfl rfl]) | rw [hret _ _ rfl rfl rfl]
  exact Steps.refl _
/-- what holds at the law's entry: the machine, the code, the tables' words (any of lw_tbl by 'hts w (by decide +kernel)'), the script of L ints xs at the cell b, what the Statement gives of the start (any of its parts by flat_of_before) -/
def lw_At (p : Program) (s : State) (m : MethodId) (meth : Method) (c : Code) (b L : Nat) (xs : Nat → Int32) : Prop :=
  p.tables.exec = Jvm.exec ∧ c.code = code ∧ meth.sig.returnType = ret ∧ c.maxLocals = 7 ∧ s.vm.findClass R_law = some m.cls ∧ (∀ w ∈ lw_tbl, w.before #[Value.ref b] s = true) ∧ va_X b L xs s s.heap ∧ b < s.heap.size ∧ meth.locks = false ∧ (Jvm.Cond.and given_1 narrow_1).before #[Value.ref b] s = true

set_option maxRecDepth 100000 in
theorem jcw_106 : lw_tbl[106]? = some (.initialized "PlanarFlow") := rfl
set_option maxRecDepth 100000 in
theorem jcw_117 : lw_tbl[117]? = some (.initialized "PlanarFlowModel") := rfl
set_option maxRecDepth 100000 in
theorem jcw_128 : lw_tbl[128]? = some (.classLink "PlanarFlowLaw" 8 "PlanarFlow") := rfl
set_option maxRecDepth 100000 in
theorem jcw_129 : lw_tbl[129]? = some (.instantiable "PlanarFlow" 11) := rfl
set_option maxRecDepth 100000 in
theorem jcw_130 : lw_tbl[130]? = some (.methodLink "PlanarFlowLaw" 31 ⟨"PlanarFlow", "<init>", "()V"⟩) := rfl
set_option maxRecDepth 100000 in
theorem jcw_131 : lw_tbl[131]? = some (.instanceMethod ⟨"PlanarFlow", "<init>", "()V"⟩) := rfl
set_option maxRecDepth 100000 in
theorem jcw_132 : lw_tbl[132]? = some (.code yX9_init cX9_init 2 none) := rfl
set_option maxRecDepth 100000 in
theorem jcw_1162 : lw_tbl[1162]? = some (.classLink "PlanarFlowLaw" 32 "PlanarFlowModel") := rfl
set_option maxRecDepth 100000 in
theorem jcw_1163 : lw_tbl[1163]? = some (.instantiable "PlanarFlowModel" 52) := rfl
set_option maxRecDepth 100000 in
theorem jcw_1164 : lw_tbl[1164]? = some (.methodLink "PlanarFlowLaw" 34 ⟨"PlanarFlowModel", "<init>", "()V"⟩) := rfl
set_option maxRecDepth 100000 in
theorem jcw_1165 : lw_tbl[1165]? = some (.instanceMethod ⟨"PlanarFlowModel", "<init>", "()V"⟩) := rfl
set_option maxRecDepth 100000 in
theorem jcw_1166 : lw_tbl[1166]? = some (.code yX10_init cX10_init 1 none) := rfl
set_option maxRecDepth 100000 in
theorem jcw_1714 : lw_tbl[1714]? = some (.arrayClass .long) := rfl
theorem dW_0 : decode code 0 = .ok (.new 8, 3) := by decide +kernel
theorem dW_3 : decode code 3 = .ok (.dup, 1) := by decide +kernel
theorem dW_4 : decode code 4 = .ok (.invokespecial 31, 3) := by decide +kernel
theorem dW_7 : decode code 7 = .ok (.astore_n 1, 1) := by decide +kernel
theorem dW_8 : decode code 8 = .ok (.new 32, 3) := by decide +kernel
theorem dW_11 : decode code 11 = .ok (.dup, 1) := by decide +kernel
theorem dW_12 : decode code 12 = .ok (.invokespecial 34, 3) := by decide +kernel
theorem dW_15 : decode code 15 = .ok (.astore_n 2, 1) := by decide +kernel
theorem dW_16 : decode code 16 = .ok (.iconst 1, 1) := by decide +kernel
theorem dW_17 : decode code 17 = .ok (.newarray .long, 2) := by decide +kernel
theorem dW_19 : decode code 19 = .ok (.astore_n 3, 1) := by decide +kernel
theorem dW_20 : decode code 20 = .ok (.iconst 0, 1) := by decide +kernel
theorem dW_21 : decode code 21 = .ok (.istore 4, 2) := by decide +kernel
set_option maxHeartbeats 40000000 in
set_option maxRecDepth 100000 in
/-- from the loop's head on -/
theorem jl_loop {p : Program} {e : Env} {s : State} {m : MethodId} {below : List Frame} {meth : Method} {c : Code} (l : Launch) (hl9 : l.stackTraces = false) {b L : Nat} {xs : Nat → Int32} (hL : L ≤ 3072) (hx : p.tables.exec = Jvm.exec) (hb : c.code = code) (hr : meth.sig.returnType = ret) (hml : c.maxLocals = 7) (hown : s.vm.findClass R_law = some m.cls) (hts : ∀ w ∈ jm_g, w.before #[Value.ref b] s = true) (hX : va_X b L xs s s.heap) (hbl : b < s.heap.size) (hlocks : meth.locks = false) {dC : Nat → ClassId} {dI : Nat → Nat → Nat} {cA : Nat → ClassId} {AD adV : Nat → Nat} (hctx : jm_ctx dC dI cA AD adV (fun q : Nat => s.heap.size ≤ q) s s.heap) (z1 : AD 998 = b) {M : jm_Mem} {H : Heap} {locs : List Loc} {ls : Array Slot} (hP : va_P (dC, dI) vwCl (jm_wd cA AD [0, 1, 2, 3, 4, 5, 6, 7, 8, 9, 10, 11, 12, 13, 14, 15, 16, 17, 18, 19, 20, 21, 22, 23, 24, 25, 26, 27, 28, 29, 30, 31, 32, 33, 34, 35, 36, 37, 38, 39, 40, 41, 42, 43, 44, 45, 46, 47, 48, 49, 50, 51, 52, 53, 54, 55, 56, 57, 58, 59, 60, 61, 62, 63, 64, 65, 66, 67, 68, 69, 70, 71, 72, 73, 74, 75, 76, 77, 78, 79, 80, 81, 82, 83, 84, 85, 86, 87, 88, 89, 90, 91, 92, 93, 94] M) H) (hD : va_D (fun q : Nat => s.heap.size ≤ q) (jm_wd cA AD [0, 1, 2, 3, 4, 5, 6, 7, 8, 9, 10, 11, 12, 13, 14, 15, 16, 17, 18, 19, 20, 21, 22, 23, 24, 25, 26, 27, 28, 29, 30, 31, 32, 33, 34, 35, 36, 37, 38, 39, 40, 41, 42, 43, 44, 45, 46, 47, 48, 49, 50, 51, 52, 53, 54, 55, 56, 57, 58, 59, 60, 61, 62, 63, 64, 65, 66, 67, 68, 69, 70, 71, 72, 73, 74, 75, 76, 77, 78, 79, 80, 81, 82, 83, 84, 85, 86, 87, 88, 89, 90, 91, 92, 93, 94] M)) (hM : jm_okM M) (hSm : z_Sm M) (h998 : M 998 = jl_scr L xs) (h999 : M 999 = fun _ => 0) (hS : va_S (fun q : Nat => s.heap.size ≤ q) s.heap H locs) (hl : lv_has ls 7 [(4, .int 0), (3, .ref (AD 94)), (2, .ref (AD 67)), (1, .ref (AD 0)), (0, .ref b)]) : W p l e room_1 s m #[Value.ref b] below meth c H locs 95 7658 (lw_Z below #[Value.ref b] s) (F0 m 23 ls []) := by
  have hwok : jm_wok AD [0, 1, 2, 3, 4, 5, 6, 7, 8, 9, 10, 11, 12, 13, 14, 15, 16, 17, 18, 19, 20, 21, 22, 23, 24, 25, 26, 27, 28, 29, 30, 31, 32, 33, 34, 35, 36, 37, 38, 39, 40, 41, 42, 43, 44, 45, 46, 47, 48, 49, 50, 51, 52, 53, 54, 55, 56, 57, 58, 59, 60, 61, 62, 63, 64, 65, 66, 67, 68, 69, 70, 71, 72, 73, 74, 75, 76, 77, 78, 79, 80, 81, 82, 83, 84, 85, 86, 87, 88, 89, 90, 91, 92, 93, 94] (fun q : Nat => s.heap.size ≤ q) := jc_wok (cA := cA) (M := M) hD (by decide +kernel) (by decide +kernel) (by decide +kernel)
  have hlaw := z_law (L := (L : Int)) (g0 := 0) (g1 := 0) (by omega) (by omega) (L + 6) 0 none none M (by omega) (by omega) (by rw [h998]; rfl) hSm (by rw [h999]; decide) (by rw [h999]; decide) (by decide)
  obtain ⟨n, hn⟩ := hlaw
  have hF : jm_F p room_1 s m #[Value.ref b] c dC dI cA AD adV [0, 1, 2, 3, 4, 5, 6, 7, 8, 9, 10, 11, 12, 13, 14, 15, 16, 17, 18, 19, 20, 21, 22, 23, 24, 25, 26, 27, 28, 29, 30, 31, 32, 33, 34, 35, 36, 37, 38, 39, 40, 41, 42, 43, 44, 45, 46, 47, 48, 49, 50, 51, 52, 53, 54, 55, 56, 57, 58, 59, 60, 61, 62, 63, 64, 65, 66, 67, 68, 69, 70, 71, 72, 73, 74, 75, 76, 77, 78, 79, 80, 81, 82, 83, 84, 85, 86, 87, 88, 89, 90, 91, 92, 93, 94] (fun q : Nat => s.heap.size ≤ q) 216 := ⟨hx, hb, hml, hown, hts, Nat.le_of_ble_eq_true rfl, Nat.le_of_ble_eq_true rfl, hctx, hwok, fun _ h => h⟩
  have hscr : jm_scr AD (fun q : Nat => s.heap.size ≤ q) s (jl_scr L xs) := ⟨L, xs, by rw [z1]; exact hX, by rw [z1]; exact hbl, by rw [z1]; exact Nat.not_le.mpr hbl, hL, rfl, fun j _ => jl_scr_j L xs j⟩
  have hG := js_sound l hl9 dC dI cA AD adV [0, 1, 2, 3, 4, 5, 6, 7, 8, 9, 10, 11, 12, 13, 14, 15, 16, 17, 18, 19, 20, 21, 22, 23, 24, 25, 26, 27, 28, 29, 30, 31, 32, 33, 34, 35, 36, 37, 38, 39, 40, 41, 42, 43, 44, 45, 46, 47, 48, 49, 50, 51, 52, 53, 54, 55, 56, 57, 58, 59, 60, 61, 62, 63, 64, 65, 66, 67, 68, 69, 70, 71, 72, 73, 74, 75, 76, 77, 78, 79, 80, 81, 82, 83, 84, 85, 86, 87, 88, 89, 90, 91, 92, 93, 94] n 216 _ _ hn p e room_1 s m #[Value.ref b] below meth c (fun q : Nat => s.heap.size ≤ q) (lw_Z below #[Value.ref b] s) (-95) (-7658) (jl_scr L xs) hF (fun _ => hscr) (fun r M' hq => by
      obtain ⟨-, b0, b1⟩ := hq
      refine ⟨?_, ?_⟩
      · show (M' 999 0 - (-95)).toNat ≤ 601024
        omega
      · show (M' 999 1 - (-7658)).toNat ≤ 7293034
        omega) (by
      intro r M' k' JL H' locs' hq he hok hsz hP' hS' g1 g2
      obtain ⟨rfl, b0, b1⟩ := hq
      refine va_forget (fun q hq => hS'.2.2 q hq) ?_
      refine W.widen (k := 601024) (n := 7293034) (by omega) (by omega) ?_
      exact lw_ret hx hb hr hlocks he.1)
  have hlr : jm_lr AD [0, 1, 2, 3, 4, 5, 6, 7, 8, 9, 10, 11, 12, 13, 14, 15, 16, 17, 18, 19, 20, 21, 22, 23, 24, 25, 26, 27, 28, 29, 30, 31, 32, 33, 34, 35, 36, 37, 38, 39, 40, 41, 42, 43, 44, 45, 46, 47, 48, 49, 50, 51, 52, 53, 54, 55, 56, 57, 58, 59, 60, 61, 62, 63, 64, 65, 66, 67, 68, 69, 70, 71, 72, 73, 74, 75, 76, 77, 78, 79, 80, 81, 82, 83, 84, 85, 86, 87, 88, 89, 90, 91, 92, 93, 94] 216 (z_ls (6 * 0) none none) ls := by
    refine ⟨hl.1, hl.2.1, fun i v hv => ?_⟩
    match i, hv with
    | 0, hv =>
      have : jm_R 998 = v := Option.some.inj hv
      subst this
      exact ⟨by show ls[0]? = some (.val (.ref (AD 998))); rw [z1]; exact lv_at hl 4 rfl, Or.inr (Or.inr ⟨rfl, rfl⟩), fun x h => by cases h⟩
    | 1, hv =>
      have : jm_R 0 = v := Option.some.inj hv
      subst this
      exact ⟨lv_at hl 3 rfl, Or.inl (by decide), fun x h => by cases h⟩
    | 2, hv =>
      have : jm_R 67 = v := Option.some.inj hv
      subst this
      exact ⟨lv_at hl 2 rfl, Or.inl (by decide), fun x h => by cases h⟩
    | 3, hv =>
      have : jm_R 94 = v := Option.some.inj hv
      subst this
      exact ⟨lv_at hl 1 rfl, Or.inl (by decide), fun x h => by cases h⟩
    | 4, hv =>
      have : jm_I (6 * 0) = v := Option.some.inj hv
      subst this
      exact ⟨lv_at hl 0 rfl, ⟨by decide, by decide⟩, fun x h => by cases h⟩
    | 5, hv => exact nomatch hv
    | 6, hv => exact nomatch hv
    | i + 7, hv => exact nomatch hv
  have hW := hG ls H locs hlr (fun v hv => nomatch hv) hM hP hS (by show (-95 : Int) ≤ M 999 0; rw [h999]; decide) (by show (-7658 : Int) ≤ M 999 1; rw [h999]; decide) (fun _ => h998)
  have e1 : (M 999 0 - (-95)).toNat = 95 := by rw [h999]; rfl
  have e2 : (M 999 1 - (-7658)).toNat = 7658 := by rw [h999]; rfl
  dsimp only at hW
  rw [e1, e2] at hW
  exact hW
set_option maxHeartbeats 40000000 in
set_option maxRecDepth 100000 in
theorem whole_start {p : Program} {e : Env} {s : State} {m : MethodId} {below : List Frame} {meth : Method} {c : Code} (l : Launch) (hflags : l.flags = flags0) {b L : Nat} {xs : Nat → Int32} (hL : L ≤ 3072) (C0 : lw_At p s m meth c b L xs) : W p l e room_1 s m #[Value.ref b] below meth c s.heap [] 0 0 (lw_Z below #[Value.ref b] s) (entryFrame m ([Value.ref b] : List Value).toArray 7) := by
  obtain ⟨hx, hb, hr, hml, hown, hts0, hX, hbl, hlocks, hgv⟩ := id C0
  have hl9 : l.stackTraces = false := by unfold Launch.stackTraces; rw [hflags]; decide +kernel
  obtain ⟨dC, dI, cA, adS, adV, hB, hctx⟩ := jl_ctx hts0 hgv
  have hts : ∀ w ∈ jm_g, w.before #[Value.ref b] s = true := fun w h => hts0 w (jl_gsub h)
  have hK := hB.1
  have hA : ∀ q : Nat, s.heap.size ≤ q → (fun q : Nat => s.heap.size ≤ q) q := fun _ h => h
  have hS : va_S (fun q : Nat => s.heap.size ≤ q) s.heap s.heap [] := va_S.rf
  have hP : va_P (dC, dI) vwCl [] s.heap := fun k q h => by simp at h
  have hD : va_D (fun q : Nat => s.heap.size ≤ q) [] := ⟨fun i j p q h => by simp at h, fun k q h => by simp at h⟩
  have hl := lv_entry ([.ref b]) (n := 7) (Nat.le_of_ble_eq_true rfl)
  rw [lg_entry_eq]
  generalize (lg_sl ([.ref b]) ++ List.replicate (7 - (lg_sl ([.ref b])).length) Slot.unset).toArray = ls at hl ⊢
  have hl : lv_has ls 7 [(0, .ref b)] := hl
  refine va_new (ci := 9) (fs := [.null, .null, .null, .null, .null, .null, .null, .null, .null, .null, .null]) (C := RX9) (T := TX9) (N := 11) hx hb hts (jm_uws (ci := 9) (by decide)) tyX9 tyX9_ok hown (hts _ (jm_in_g 128 jcw_128 rfl)) (hts _ (jm_in_g 129 jcw_129 rfl)) (hts _ (jm_in_g 106 jcw_106 rfl)) hK hP hD hS hA rfl (fun j hj => match j, hj with | 0, _ => rfl | 1, _ => rfl | 2, _ => rfl | 3, _ => rfl | 4, _ => rfl | 5, _ => rfl | 6, _ => rfl | 7, _ => rfl | 8, _ => rfl | 9, _ => rfl | 10, _ => rfl | k + 11, h => absurd h (by omega)) (Nat.le_of_ble_eq_true rfl) (Nat.le_of_ble_eq_true rfl) dW_0 (fun q0 H hP hD hS => ?_)
  have hP : va_P (dC, dI) vwCl [(q0, .inr (9, [.null, .null, .null, .null, .null, .null, .null, .null, .null, .null, .null]))] H := hP
  have hD : va_D (fun q : Nat => s.heap.size ≤ q) [(q0, .inr (9, [.null, .null, .null, .null, .null, .null, .null, .null, .null, .null, .null]))] := hD
  refine lv_dup hx hb dW_3 rfl ?_
  have hPc := hP.sub (ws' := [(q0, .inr (9, [.null, .null, .null, .null, .null, .null, .null, .null, .null, .null, .null]))]) [0] rfl
  have hDc := hD.sub (ws' := [(q0, .inr (9, [.null, .null, .null, .null, .null, .null, .null, .null, .null, .null, .null]))]) [0] (by decide) rfl
  have hFc := va_free (wc := [(q0, .inr (9, [.null, .null, .null, .null, .null, .null, .null, .null, .null, .null, .null]))]) hD hS hA [0] rfl
  refine va_callv (va_runI (As := []) (rest := [.ref q0]) ⟨hx, hb, hml, hown, hts⟩ (jc_9 l dC dI cA hl9 adS adV q0 H.size) (cwI 0 hts (jc_good (jm_in_g 132 jcw_132 rfl)) rfl rfl rfl (hts _ (jm_in_g 106 jcw_106 rfl)) (hts _ (jm_in_g 130 jcw_130 rfl)) (hts _ (jm_in_g 131 jcw_131 rfl)) rfl (by decide +kernel) ⟨Nat.le_of_ble_eq_true rfl, Nat.le_of_ble_eq_true rfl⟩) ⟨fun a U g mk q => by obtain ⟨q0, q1, qP, qB, qD⟩ := q; exact ⟨q0, q1, qP, ⟨jc_B_blind qB.1, jm_ctx_blind qB.2⟩, qD⟩, fun U hU hW => ⟨rfl, by rw [hU], by rw [hU]; exact hPc, ⟨jc_B_to hW hB, by rw [hU]; exact jm_ctx_to hctx hW hS.2.1 hFc⟩, hDc.weaken (fun _ _ _ _ => trivial)⟩⟩ rfl rfl hl.1 rfl (lv_room (Nat.le_of_ble_eq_true rfl)) dW_4 ⟨Nat.le_of_ble_eq_true rfl, Nat.le_of_ble_eq_true rfl⟩) hS (fun q _ h => hFc q h) hFc (fun u t H1 locs ht hvm hw hB1 hz1 hk1 hS => ?_)
  obtain ⟨hP1, hD1, x1, x2, x3, x4, x5⟩ := hB1
  subst x1
  rw [ht] at hP1
  obtain ⟨hP, hD⟩ := va_join (wr := []) (w1 := (jm_wd cA u.1 [0, 1, 2, 3, 4, 5, 6, 7, 8, 9, 10, 11, 12, 13, 14, 15, 16, 17, 18, 19, 20, 21, 22, 23, 24, 25, 26, 27, 28, 29, 30, 31, 32, 33, 34, 35, 36, 37, 38, 39, 40, 41, 42, 43, 44, 45, 46, 47, 48, 49, 50, 51, 52, 53, 54, 55, 56, 57, 58, 59, 60, 61, 62, 63, 64, 65, 66] u.2)) hP hD [0] [] rfl rfl (by decide) (by decide) hk1 hFc hP1 hD1
  generalize H1 = H at hP hS ⊢
  have hP : va_P (dC, dI) vwCl (jm_wd cA u.1 [0, 1, 2, 3, 4, 5, 6, 7, 8, 9, 10, 11, 12, 13, 14, 15, 16, 17, 18, 19, 20, 21, 22, 23, 24, 25, 26, 27, 28, 29, 30, 31, 32, 33, 34, 35, 36, 37, 38, 39, 40, 41, 42, 43, 44, 45, 46, 47, 48, 49, 50, 51, 52, 53, 54, 55, 56, 57, 58, 59, 60, 61, 62, 63, 64, 65, 66] u.2) H := hP
  have hD : va_D (fun q : Nat => s.heap.size ≤ q) (jm_wd cA u.1 [0, 1, 2, 3, 4, 5, 6, 7, 8, 9, 10, 11, 12, 13, 14, 15, 16, 17, 18, 19, 20, 21, 22, 23, 24, 25, 26, 27, 28, 29, 30, 31, 32, 33, 34, 35, 36, 37, 38, 39, 40, 41, 42, 43, 44, 45, 46, 47, 48, 49, 50, 51, 52, 53, 54, 55, 56, 57, 58, 59, 60, 61, 62, 63, 64, 65, 66] u.2) := hD
  refine lv_astore_n (lv' := [(1, .ref (u.1 0)), (0, .ref b)]) hx hb dW_7 rfl hl (by decide) rfl (fun ls hl => ?_)
  refine va_new (ci := 10) (fs := [.int 0, .int 0, .int 0, .null, .null, .null, .null, .null, .int 0, .int 0, .int 0, .int 0, .int 0, .int 0, .long 0, .int 0, .null, .int 0, .int 0, .int 0, .int 0, .null, .null, .null, .int 0, .int 0, .null, .null, .null, .int 0, .int 0, .null, .null, .int 0, .int 0, .int 0, .int 0, .null, .null, .null, .null, .null, .null, .null, .null, .int 0, .null, .null, .null, .int 0, .null, .int 0]) (C := RX10) (T := TX10) (N := 52) hx hb hts (jm_uws (ci := 10) (by decide)) tyX10 tyX10_ok hown (hts _ (jm_in_g 1162 jcw_1162 rfl)) (hts _ (jm_in_g 1163 jcw_1163 rfl)) (hts _ (jm_in_g 117 jcw_117 rfl)) hK hP hD hS hA rfl (fun j hj => match j, hj with | 0, _ => rfl | 1, _ => rfl | 2, _ => rfl | 3, _ => rfl | 4, _ => rfl | 5, _ => rfl | 6, _ => rfl | 7, _ => rfl | 8, _ => rfl | 9, _ => rfl | 10, _ => rfl | 11, _ => rfl | 12, _ => rfl | 13, _ => rfl | 14, _ => rfl | 15, _ => rfl | 16, _ => rfl | 17, _ => rfl | 18, _ => rfl | 19, _ => rfl | 20, _ => rfl | 21, _ => rfl | 22, _ => rfl | 23, _ => rfl | 24, _ => rfl | 25, _ => rfl | 26, _ => rfl | 27, _ => rfl | 28, _ => rfl | 29, _ => rfl | 30, _ => rfl | 31, _ => rfl | 32, _ => rfl | 33, _ => rfl | 34, _ => rfl | 35, _ => rfl | 36, _ => rfl | 37, _ => rfl | 38, _ => rfl | 39, _ => rfl | 40, _ => rfl | 41, _ => rfl | 42, _ => rfl | 43, _ => rfl | 44, _ => rfl | 45, _ => rfl | 46, _ => rfl | 47, _ => rfl | 48, _ => rfl | 49, _ => rfl | 50, _ => rfl | 51, _ => rfl | k + 52, h => absurd h (by omega)) (Nat.le_of_ble_eq_true rfl) (Nat.le_of_ble_eq_true rfl) dW_8 (fun q1 H hP hD hS => ?_)
  refine lv_dup hx hb dW_11 rfl ?_
  have hPc := hP.sub (ws' := [(q1, .inr (10, [.int 0, .int 0, .int 0, .null, .null, .null, .null, .null, .int 0, .int 0, .int 0, .int 0, .int 0, .int 0, .long 0, .int 0, .null, .int 0, .int 0, .int 0, .int 0, .null, .null, .null, .int 0, .int 0, .null, .null, .null, .int 0, .int 0, .null, .null, .int 0, .int 0, .int 0, .int 0, .null, .null, .null, .null, .null, .null, .null, .null, .int 0, .null, .null, .null, .int 0, .null, .int 0]))]) [67] rfl
  have hDc := hD.sub (ws' := [(q1, .inr (10, [.int 0, .int 0, .int 0, .null, .null, .null, .null, .null, .int 0, .int 0, .int 0, .int 0, .int 0, .int 0, .long 0, .int 0, .null, .int 0, .int 0, .int 0, .int 0, .null, .null, .null, .int 0, .int 0, .null, .null, .null, .int 0, .int 0, .null, .null, .int 0, .int 0, .int 0, .int 0, .null, .null, .null, .null, .null, .null, .null, .null, .int 0, .null, .null, .null, .int 0, .null, .int 0]))]) [67] (by decide) rfl
  have hFc := va_free (wc := [(q1, .inr (10, [.int 0, .int 0, .int 0, .null, .null, .null, .null, .null, .int 0, .int 0, .int 0, .int 0, .int 0, .int 0, .long 0, .int 0, .null, .int 0, .int 0, .int 0, .int 0, .null, .null, .null, .int 0, .int 0, .null, .null, .null, .int 0, .int 0, .null, .null, .int 0, .int 0, .int 0, .int 0, .null, .null, .null, .null, .null, .null, .null, .null, .int 0, .null, .null, .null, .int 0, .null, .int 0]))]) hD hS hA [67] rfl
  refine va_callv (va_runI (As := []) (rest := [.ref q1]) ⟨hx, hb, hml, hown, hts⟩ (jc_10 l dC dI cA hl9 adS adV q1 H.size) (cwI 0 hts (jc_good (jm_in_g 1166 jcw_1166 rfl)) rfl rfl rfl (hts _ (jm_in_g 117 jcw_117 rfl)) (hts _ (jm_in_g 1164 jcw_1164 rfl)) (hts _ (jm_in_g 1165 jcw_1165 rfl)) rfl (by decide +kernel) ⟨Nat.le_of_ble_eq_true rfl, Nat.le_of_ble_eq_true rfl⟩) ⟨fun a U g mk q => by obtain ⟨q0, q1, qP, qB, qD⟩ := q; exact ⟨q0, q1, qP, ⟨jc_B_blind qB.1, jm_ctx_blind qB.2⟩, qD⟩, fun U hU hW => ⟨rfl, by rw [hU], by rw [hU]; exact hPc, ⟨jc_B_to hW hB, by rw [hU]; exact jm_ctx_to hctx hW hS.2.1 hFc⟩, hDc.weaken (fun _ _ _ _ => trivial)⟩⟩ rfl rfl hl.1 rfl (lv_room (Nat.le_of_ble_eq_true rfl)) dW_12 ⟨Nat.le_of_ble_eq_true rfl, Nat.le_of_ble_eq_true rfl⟩) hS (fun q _ h => hFc q h) hFc (fun v t H1 locs ht hvm hw hB1 hz1 hk1 hS => ?_)
  obtain ⟨hP1, hD1, y1, y2, y3, y4⟩ := hB1
  subst y1
  rw [ht] at hP1
  obtain ⟨hP, hD⟩ := va_join (wr := (jm_wd cA u.1 [0, 1, 2, 3, 4, 5, 6, 7, 8, 9, 10, 11, 12, 13, 14, 15, 16, 17, 18, 19, 20, 21, 22, 23, 24, 25, 26, 27, 28, 29, 30, 31, 32, 33, 34, 35, 36, 37, 38, 39, 40, 41, 42, 43, 44, 45, 46, 47, 48, 49, 50, 51, 52, 53, 54, 55, 56, 57, 58, 59, 60, 61, 62, 63, 64, 65, 66] u.2)) (w1 := (jm_wd cA v.1 [67, 68, 69, 70, 71, 72, 73, 74, 75, 76, 77, 78, 79, 80, 81, 82, 83, 84, 85, 86, 87, 88, 89, 90, 91, 92, 93] v.2)) hP hD [67] [0, 1, 2, 3, 4, 5, 6, 7, 8, 9, 10, 11, 12, 13, 14, 15, 16, 17, 18, 19, 20, 21, 22, 23, 24, 25, 26, 27, 28, 29, 30, 31, 32, 33, 34, 35, 36, 37, 38, 39, 40, 41, 42, 43, 44, 45, 46, 47, 48, 49, 50, 51, 52, 53, 54, 55, 56, 57, 58, 59, 60, 61, 62, 63, 64, 65, 66] rfl rfl (by decide) (by decide) hk1 hFc hP1 hD1
  generalize H1 = H at hP hS ⊢
  refine lv_astore_n (lv' := [(2, .ref (v.1 67)), (1, .ref (u.1 0)), (0, .ref b)]) hx hb dW_15 rfl hl (by decide) rfl (fun ls hl => ?_)
  refine lv_iconst (v := 1) hx hb dW_16 rfl ?_
  refine jc_newa (atype := .long) (ty := .long) (N' := 1) (a0 := (1, .inr (.inl (fun _ => 0)))) (cX := cA 3) hx hb (hts _ (jm_in_g 1714 jcw_1714 rfl)) rfl hK hP hD hS hA (fun _ => rfl) (by decide) rfl (Nat.le_of_ble_eq_true rfl) (Nat.le_of_ble_eq_true rfl) (Nat.le_of_ble_eq_true rfl) dW_17 3 rfl (fun _ _ h1 h2 => Option.some.inj (h1.symm.trans h2)) (fun q2 H hP hD hS => ?_)
  refine lv_astore_n (lv' := [(3, .ref q2), (2, .ref (v.1 67)), (1, .ref (u.1 0)), (0, .ref b)]) hx hb dW_19 rfl hl (by decide) rfl (fun ls hl => ?_)
  refine lv_iconst (v := 0) hx hb dW_20 rfl ?_
  refine lv_istore (lv' := [(4, .int 0), (3, .ref q2), (2, .ref (v.1 67)), (1, .ref (u.1 0)), (0, .ref b)]) hx hb dW_21 hl (by decide) rfl (fun ls hl => ?_)
  refine W.widen (k := 95) (n := 7658) (Nat.le_of_ble_eq_true rfl) (Nat.le_of_ble_eq_true rfl) ?_
  obtain ⟨AD, hAD⟩ : ∃ AD : Nat → Nat, AD = jl_ad u.1 v.1 adS q2 b := ⟨_, rfl⟩
  have hP := jc_arq (k := 21) (g := fun j => some (AD (([23, 28] : List Nat).getD j 0))) hP rfl (jc_two (by rw [hAD]; rfl) (by rw [hAD]; rfl))
  have hP : va_P (dC, dI) vwCl (jm_wd cA AD [0, 1, 2, 3, 4, 5, 6, 7, 8, 9, 10, 11, 12, 13, 14, 15, 16, 17, 18, 19, 20, 21, 22, 23, 24, 25, 26, 27, 28, 29, 30, 31, 32, 33, 34, 35, 36, 37, 38, 39, 40, 41, 42, 43, 44, 45, 46, 47, 48, 49, 50, 51, 52, 53, 54, 55, 56, 57, 58, 59, 60, 61, 62, 63, 64, 65, 66, 67, 68, 69, 70, 71, 72, 73, 74, 75, 76, 77, 78, 79, 80, 81, 82, 83, 84, 85, 86, 87, 88, 89, 90, 91, 92, 93, 94] (jl_M u.2 v.2 (jl_scr L xs))) H := by subst hAD; exact hP
  have hD : va_D (fun q : Nat => s.heap.size ≤ q) (jm_wd cA AD [0, 1, 2, 3, 4, 5, 6, 7, 8, 9, 10, 11, 12, 13, 14, 15, 16, 17, 18, 19, 20, 21, 22, 23, 24, 25, 26, 27, 28, 29, 30, 31, 32, 33, 34, 35, 36, 37, 38, 39, 40, 41, 42, 43, 44, 45, 46, 47, 48, 49, 50, 51, 52, 53, 54, 55, 56, 57, 58, 59, 60, 61, 62, 63, 64, 65, 66, 67, 68, 69, 70, 71, 72, 73, 74, 75, 76, 77, 78, 79, 80, 81, 82, 83, 84, 85, 86, 87, 88, 89, 90, 91, 92, 93, 94] (jl_M u.2 v.2 (jl_scr L xs))) := va_D_ad (by subst hAD; rfl) hD
  have z1 : AD 998 = b := by rw [hAD]; rfl
  have z2 : AD 0 = u.1 0 := by rw [hAD]; rfl
  have z3 : AD 67 = v.1 67 := by rw [hAD]; rfl
  have z4 : AD 94 = q2 := by rw [hAD]; rfl
  have hctx2 : jm_ctx dC dI cA AD adV (fun q : Nat => s.heap.size ≤ q) s s.heap := jl_ctx6 (fun i hi => by rw [hAD]; exact jl_ad_o i hi) hctx
  exact jl_loop l hl9 hL hx hb hr hml hown hts hX hbl hlocks hctx2 z1 hP hD (jl_ok x3 y3 (jl_scr_in hL xs)) (jl_Sm x4 x5 y4) rfl rfl hS (by rw [z2, z3, z4]; exact hl)
