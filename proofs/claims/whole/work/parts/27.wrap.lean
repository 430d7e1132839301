/-! THE LAW'S OWN METHODS -/
abbrev jw_pre (dC : Nat → ClassId) (dI : Nat → Nat → Nat) (cA : Nat → ClassId) (ad adV : Nat → Nat) (ids : List Nat) (M : jm_Mem) (sz : Nat) : State → Prop := fun U => U.heap.size = sz ∧ va_P (dC, dI) vwCl (jm_wd cA ad ids M) U.heap ∧ jm_ctx dC dI cA ad adV (va_A (jm_wd cA ad ids M) sz) U U.heap
abbrev jw_post (dC : Nat → ClassId) (dI : Nat → Nat → Nat) (cA : Nat → ClassId) (ad : Nat → Nat) (ids : List Nat) (M2 : jm_Mem) (r : Int) (A : Nat → Prop) : Array Value → State → Outcome → State → Prop := fun _ s0 oc t => (oc = .returned (some (.int (Int32.ofInt r))) ∧ va_P (dC, dI) vwCl (jm_wd cA ad ids M2) t.heap ∧ jm_okM M2) ∧ va_F A s0 t
section JW
variable {p : Program} {l : Launch} {e : Env} {R : Room} {s : State} {mid : MethodId} {args : Array Value} {below : List Frame} {meth : Method} {c : Code}
variable {dC : Nat → ClassId} {dI : Nat → Nat → Nat} {cA : Nat → ClassId} {ad adV : Nat → Nat} {ids : List Nat} {M M1 : jm_Mem} {mi iv nL : Nat} {as' : List jm_V} {cc : ByteArray} {FQ : State → Prop} {rm : Room} {mc ms : Nat}
theorem jw_cw (hts : ∀ w ∈ jm_g, w.before args s = true) (hmi : mi < 216) (hv : (jm_mi mi).2.1 = 1) (hn : (jm_mi mi).2.2.1 = as'.length + 1) (hlink : Cond.methodLink RL iv (jm_y mi) ∈ jm_g) (hrc : rm.cells = mc) (hrs : rm.slots = ms) (hR : rm.frames + 1 ≤ R.frames ∧ 8 + ((jm_mi mi).2.2.2.1 + 11) + rm.locals ≤ R.locals) : CallW R s args RL (jm_y mi).cls iv (jm_y mi) (jm_b mi) (jm_mi mi).2.2.2.1 (jm_r mi) (jm_ws mi) rm mc ms as'.length := by
  obtain ⟨n1, n2, n3, n4, n5, n6⟩ := jm_mn_ok mi hmi
  obtain ⟨v1, v2⟩ := jm_mv_ok mi hmi hv
  have hgood : GoodIn jm_g (wsV RL iv (jm_y mi).cls (jm_y mi) (jm_ws mi)) := by
    intro w hw
    unfold wsV at hw
    have hin : w ∈ jm_g := by
      rcases List.mem_append.mp hw with hw | hw
      · simp only [List.mem_cons, List.not_mem_nil, or_false] at hw
        rcases hw with rfl | rfl | rfl | rfl
        · exact hlink
        · exact jm_in_g _ v1 rfl
        · exact jm_in_g _ v2 rfl
        · exact jm_in_g _ n1 rfl
      · rcases List.mem_cons.mp hw with rfl | hw
        · exact jm_mc_ok hmi
        · exact hw
    exact jm_g_good w hin
  have hlen : (parseMethodDescriptor (jm_y mi).desc).map (fun d => d.parameters.length) = some as'.length := by
    cases hd2 : parseMethodDescriptor (jm_y mi).desc with
    | none => rw [hd2] at n5; cases n5
    | some d =>
      rw [hd2] at n5
      have n5 : d.parameters.length + (jm_mi mi).2.1 = (jm_mi mi).2.2.1 := Option.some.inj n5
      rw [hv, hn] at n5
      show some d.parameters.length = some as'.length
      congr 1
      omega
  exact cwV (ret := jm_r mi) (bytes := jm_b mi) (maxL := (jm_mi mi).2.2.2.1) (R := R) (C := (jm_y mi).cls) as'.length hts hgood rfl hrc hrs ⟨rfl, n3, n4, hlen⟩ hR
theorem jw_hp (hmi : mi < 216) (hcl : (jm_mi mi).1 = 9) (hP : va_P (dC, dI) vwCl (jm_wd cA ad ids M) s.heap) (hC : jm_ctx dC dI cA ad adV (va_A (jm_wd cA ad ids M) s.heap.size) s s.heap) (h0 : 0 ∈ ids) : PreV s s.heap (jm_y mi).cls (ad 0) (va_Pc ((.inr (.inl 0) :: as').map (jm_val ad)) (jw_pre dC dI cA ad adV ids M s.heap.size)) (as'.map (jm_val ad)) := by
  obtain ⟨n1, n2, n3, n4, n5, n6⟩ := jm_mn_ok mi hmi
  refine ⟨fun a9 U g9 mk q => ⟨q.1, q.2.1, q.2.2.1, jm_ctx_blind q.2.2.2⟩, ?_, fun U hU hW => ⟨rfl, by rw [hU], by rw [hU]; exact hP, ?_⟩⟩
  · obtain ⟨o1, o2, o3, o4⟩ := jm_sh_obj (c0 := 0) (ci := (jm_mi mi).1) (by rw [hcl]; rfl) (by decide)
    obtain ⟨q0, -, hq⟩ := jm_wd_at (cA := cA) (ad := ad) (M := M) h0
    rw [o4] at hq
    have := va_recv hC.1 hP (jm_cl_ok _ o1) hq
    rw [n2]
    exact this
  · rw [hU]
    exact jm_ctx_to hC hW (fun _ _ _ => rfl) (fun _ h => h)
theorem jw_wok {A0 : Nat → Prop} (wk : jm_wok ad ids A0) (sz : Nat) : jm_wok ad ids (va_A (jm_wd cA ad ids M) sz) := by
  refine ⟨wk.1, wk.2.1, wk.2.2.1, fun d hd => ?_, wk.2.2.2.2⟩
  obtain ⟨q0, -, hq⟩ := jm_wd_at (cA := cA) (ad := ad) (M := M) hd
  exact Or.inl ⟨q0, _, hq⟩
/-- it came back with a number: that goes into out[0] -/
theorem jw_num {pc : Nat} {JL : Array Slot} {x : Int} {A0 : Nat → Prop} (hx : p.tables.exec = Jvm.exec) (hb : c.code = cc) (hml : c.maxLocals = nL) (hown : s.vm.findClass RL = some mid.cls) (hts : ∀ w ∈ jm_g, w.before args s = true) (hmi : mi < 216) (hv : (jm_mi mi).2.1 = 1) (hcl : (jm_mi mi).1 = 9) (hn : (jm_mi mi).2.2.1 = as'.length + 1) (hlink : Cond.methodLink RL iv (jm_y mi) ∈ jm_g) (hsz : JL.size = nL) (hP : va_P (dC, dI) vwCl (jm_wd cA ad ids M) s.heap) (hC : jm_ctx dC dI cA ad adV (va_A (jm_wd cA ad ids M) s.heap.size) s s.heap) (h0 : 0 ∈ ids) (h94 : 94 ∈ ids) (wk : jm_wok ad ids A0) (hrc : rm.cells = mc) (hrs : rm.slots = ms) (hR : rm.frames + 1 ≤ R.frames ∧ 8 + ((jm_mi mi).2.2.2.1 + 11) + rm.locals ≤ R.locals) (hcap : mc ≤ R.cells ∧ ms ≤ R.slots)
    (hmet : Met l (jm_y mi) (jm_ws mi) rm (va_Pc ((.inr (.inl 0) :: as').map (jm_val ad)) (jw_pre dC dI cA ad adV ids M s.heap.size)) (fun _ s0 oc t => (oc = .returned ((some (.inl x) : Option jm_V).map (jm_val ad)) ∧ va_P (dC, dI) vwCl (jm_wd cA ad ids M1) t.heap ∧ jm_okM M1 ∧ ∀ y, (some (.inl x) : Option jm_V) = some (.inl y) → jm_in y) ∧ va_F (va_A (jm_wd cA ad ids M) s.heap.size) s0 t) mc ms (va_A (jm_wd cA ad ids M) s.heap.size))
    (hd : decode cc pc = .ok (.invokevirtual iv, 3)) (d3 : decode cc (pc + 3) = .ok (.i2l, 1)) (d4 : decode cc (pc + 4) = .ok (.lastore, 1))
    (kk : ∀ (H1 : Heap) (locs1 : List Loc), va_P (dC, dI) vwCl (jm_wd cA ad ids (jm_st M1 94 0 x)) H1 → jm_okM (jm_st M1 94 0 x) → va_S (va_A (jm_wd cA ad ids M) s.heap.size) s.heap H1 locs1 → W p l e R s mid args below meth c H1 locs1 mc ms FQ (F0 mid (pc + 5) JL [])) :
    W p l e R s mid args below meth c s.heap [] 0 0 FQ (F0 mid pc JL ((as'.map (jm_val ad)).reverse ++ .ref (ad 0) :: [.int 0, .ref (ad 94)])) := by
  refine js_after (va_runV (As := as'.map (jm_val ad)) (rest := [.int 0, .ref (ad 94)]) (b := ad 0) ⟨hx, hb, hml, hown, hts⟩ hmet (jw_cw (as' := as') hts hmi hv hn hlink hrc hrs hR) (jw_hp hmi hcl hP hC h0) (g := F0 mid pc JL ((as'.map (jm_val ad)).reverse ++ .ref (ad 0) :: [.int 0, .ref (ad 94)])) rfl (by rw [List.length_map]) hsz rfl (lv_room (Nat.le_of_ble_eq_true rfl)) hd (by rw [Nat.zero_add, Nat.zero_add]; exact hcap)) va_S.rf (fun q _ h => h) (fun q h => h) (r1 := some (.int (Int32.ofInt x))) (B := fun H1 => va_P (dC, dI) vwCl (jm_wd cA ad ids M1) H1 ∧ jm_okM M1 ∧ jm_in x) (fun s0 v t hs0 hq => ?_) (fun H1 locs1 hB hS1 => ?_)
  · obtain ⟨⟨q1, q2, q3, q4⟩, q5, q6⟩ := hq
    rw [hs0] at q5 q6
    cases q1
    exact ⟨rfl, ⟨q2, q3, q4 x rfl⟩, q5, q6⟩
  · obtain ⟨p1, p2, p3⟩ := hB
    rw [Nat.zero_add, Nat.zero_add]
    refine lv_i2l (v := Int64.ofInt x) hx hb d3 (jn_long p3) ?_
    obtain ⟨q0, hq0, hw0⟩ := jm_wd_at (cA := cA) (ad := ad) (M := M1) h94
    rw [jm_ce_3 (show jm_sh 94 = (3, 1, []) from rfl)] at hw0
    refine va_last hx hb hC.1 p1 (jm_wd_D M1 (jw_wok wk _)) hS1 q0 3 hw0 rfl (vp_in_nI (n := 0) (N := 1) (by decide) (by decide)) d4 (fun H2 locs2 gP gD gS => ?_)
    refine kk H2 locs2 ?_ (jm_okM_st p2 p3) gS
    have e1 : (vp_updL (fun j => Int64.ofInt (M1 94 (j : Int))) ((nI 0).toNatClampNeg) (Int64.ofInt x)) = (fun j : Nat => Int64.ofInt (jm_st M1 94 0 x 94 (j : Int))) := by
      funext j
      rw [jm_st_eq]
      unfold vp_updL
      by_cases hj : j = 0
      · subst hj
        rfl
      · rw [if_neg (by rw [nI_clamp (by decide)]; exact hj), if_neg (by omega)]
    have e2 : jm_ce cA ad (jm_st M1 94 0 x) 94 = .inl (cA 3, 1, .inr (.inl (vp_updL (fun j => Int64.ofInt (M1 94 (j : Int))) ((nI 0).toNatClampNeg) (Int64.ofInt x)))) := by
      rw [jm_ce_3 (show jm_sh 94 = (3, 1, []) from rfl), e1]
    have e3 := jm_wd_set (cA := cA) (ad := ad) (M := M1) (M' := jm_st M1 94 0 x) wk.1 hq0 (fun d hd => jm_st_ne hd)
    rw [e2] at e3
    rw [← e3]
    exact gP
/-- it has thrown: caught -/
theorem jw_thr {pc h1 h2 : Nat} {JL : Array Slot} (hx : p.tables.exec = Jvm.exec) (hb : c.code = cc) (hml : c.maxLocals = nL) (hown : s.vm.findClass RL = some mid.cls) (hts : ∀ w ∈ jm_g, w.before args s = true) (hmi : mi < 216) (hv : (jm_mi mi).2.1 = 1) (hcl : (jm_mi mi).1 = 9) (hn : (jm_mi mi).2.2.1 = as'.length + 1) (hlink : Cond.methodLink RL iv (jm_y mi) ∈ jm_g) (hsz : JL.size = nL) (hP : va_P (dC, dI) vwCl (jm_wd cA ad ids M) s.heap) (hC : jm_ctx dC dI cA ad adV (va_A (jm_wd cA ad ids M) s.heap.size) s s.heap) (h0 : 0 ∈ ids) (hrc : rm.cells = mc) (hrs : rm.slots = ms) (hR : rm.frames + 1 ≤ R.frames ∧ 8 + ((jm_mi mi).2.2.2.1 + 11) + rm.locals ≤ R.locals) (hcap : mc ≤ R.cells ∧ ms ≤ R.slots)
    (hmet : vx_Met l (jm_y mi) (jm_ws mi) rm (va_Pc ((.inr (.inl 0) :: as').map (jm_val ad)) (jw_pre dC dI cA ad adV ids M s.heap.size)) (fun _ _ _ _ => False) (jx_X dC dI cA ad ids M1 (va_A (jm_wd cA ad ids M) s.heap.size)) mc ms (va_A (jm_wd cA ad ids M) s.heap.size))
    (hd : decode cc pc = .ok (.invokevirtual iv, 3)) (htab : c.exceptionTable.toList = tableOf [(0, h1, h2, 13)]) (hcov : covers ⟨0, h1, h2, 13⟩ pc = true) (hclass : Cond.classLink RL 13 jx_N ∈ jm_g)
    (kk : ∀ (H1 : Heap) (locs1 : List Loc) (q : Nat), va_P (dC, dI) vwCl (jm_wd cA ad ids M1) H1 → jm_okM M1 → va_S (va_A (jm_wd cA ad ids M) s.heap.size) s.heap H1 locs1 → W p l e R s mid args below meth c H1 locs1 mc ms FQ (F0 mid h2 JL [.ref q])) :
    W p l e R s mid args below meth c s.heap [] 0 0 FQ (F0 mid pc JL ((as'.map (jm_val ad)).reverse ++ .ref (ad 0) :: [.int 0, .ref (ad 94)])) := by
  have hr := vx_runV (below := below) (meth := meth) (e := e) (locs := []) (cells := 0) (slots := 0) (As := as'.map (jm_val ad)) (rest := [.int 0, .ref (ad 94)]) (b := ad 0) ⟨hx, hb, hml, hown, hts⟩ hmet (jw_cw (as' := as') hts hmi hv hn hlink hrc hrs hR) (jw_hp hmi hcl hP hC h0) (g := F0 mid pc JL ((as'.map (jm_val ad)).reverse ++ .ref (ad 0) :: [.int 0, .ref (ad 94)])) rfl (by rw [List.length_map]) hsz rfl (lv_room (Nat.le_of_ble_eq_true rfl)) hd (by rw [Nat.zero_add, Nat.zero_add]; exact hcap)
  intro T hT X
  rcases hr T hT X with ⟨v, st₀, t, T', L, -, -, -, -, -, hq, -⟩ | ⟨q, st₀, t, T', L, E, ce, e0, X', hL, e1, e2, ⟨rfl, hP1, hok, hF1⟩, hce, hcv, hcls, st⟩
  · exact hq.elim
  · obtain ⟨k1, k2, k3⟩ := vx_keep e0 e1 va_S.rf (fun q _ h => h) (fun q h => h) hL hF1
    have hw : vx_W p l e R s mid args below meth c T'.heap ([] ++ L) (0 + mc) (0 + ms) FQ (F0 mid pc JL [.int 0, .ref (ad 94)]) q := by
      refine vx_catch hown [] ⟨0, h1, h2, 13⟩ [] htab (fun z hz => nomatch hz) hcov (by show (13 : Nat) ≠ 0; decide) (hts _ hclass) (va_tabs rfl rfl (hC.2.2.2.2.2.2.2.2 (.castable jx_N jx_N) List.mem_cons_self)) (by rw [e1]; exact hce) hcv hcls ?_
      rw [Nat.zero_add, Nat.zero_add]
      exact kk _ _ q (by rw [e1]; exact hP1) hok k3
    obtain ⟨t2, a1, b1⟩ := hw T' rfl X'
    exact ⟨t2, st.trans a1, b1⟩
end JW
