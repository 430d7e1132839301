/-! CONSTRUCTORS: what they stand on -/
def jc_ws (y : MethodName) (b : ByteArray) (n : Nat) : List Cond := Cond.code y b n none :: jm_g
theorem jc_good {y : MethodName} {b : ByteArray} {n : Nat} (h : Cond.code y b n none ∈ jm_g) : GoodIn jm_g (jc_ws y b n) := fun w hw => by
  rcases List.mem_cons.mp hw with rfl | hw
  · exact jm_g_good _ h
  · exact jm_g_good w hw
section JC1
variable {p : Program} {l : Launch} {e : Env} {R : Room} {s : State} {m : MethodId} {args : Array Value} {below : List Frame} {meth : Method} {c : Code} {H H0 : Heap} {locs : List Loc} {cells slots : Nat} {Q : State → Prop} {cc : ByteArray} {pc : Nat} {ls : Array Slot} {rest : List Value} {D : va_G} {cl : List vw_C} {tys : List (ClassId × FieldType)} {ws : va_W} {A : Nat → Prop}
theorem jc_newa (hexec : p.tables.exec = Jvm.exec) (hb : c.code = cc) {atype : ArrayType} (harr : (Cond.arrayClass (newarray.typeOf atype)).before args s = true) {ty : FieldType} (hty : newarray.typeOf atype = ty) (hK : va_K D cl tys s) (hP : va_P D cl ws H) (hD : va_D A ws) (hS : va_S A H0 H locs) (hA : ∀ q, H0.size ≤ q → A q)
    {n : Int32} {N' : Nat} {a0 : vp_A} (ha : ∀ cA : ClassId, vp_cell cA a0 = arrV cA N' (fun _ => defaultValue ty)) (hn : ¬ n < 0) (hN : n.toNatClampNeg = N') (hbytes : N' * componentBytes ty ≤ 536870912) (hcells : cells + 1 ≤ R.cells) (hslots : slots + N' ≤ R.slots) (hdg : decode cc pc = .ok (.newarray atype, 2)) (t0 : Nat) {cX : ClassId} (ht : tys[t0]? = some (cX, ty)) (hra : ∀ c1 c2 : ClassId, va_RA s c1 ty → va_RA s c2 ty → c1 = c2)
    (kk : ∀ (q : Nat) (H1 : Heap), va_P D cl (ws ++ [(q, .inl (cX, a0))]) H1 → va_D A (ws ++ [(q, .inl (cX, a0))]) → va_S A H0 H1 locs → W p l e R s m args below meth c H1 locs (cells + 1) (slots + N') Q (F0 m (pc + 2) ls (.ref q :: rest))) : W p l e R s m args below meth c H locs cells slots Q (F0 m pc ls (.int n :: rest)) := by
  refine va_newa hexec hb harr hty hK hP hD hS hA ha hn hN hbytes hcells hslots hdg (fun q cA H1 hK1 hP1 hD1 hS1 => ?_)
  have e : cA = cX := hra _ _ (hK1.2 tys.length (cA, ty) (by simp)).2 (hK.2 t0 _ ht).2
  subst e
  exact kk q H1 hP1 hD1 hS1
theorem jc_newq (hexec : p.tables.exec = Jvm.exec) (hb : c.code = cc) {own C : String} {index : Nat} (hown : s.vm.findClass own = some m.cls) (hclink : (Cond.classLink own index C).before args s = true) (hover : va_AO C s) (hK : va_K D cl tys s) (hP : va_P D cl ws H) (hD : va_D A ws) (hS : va_S A H0 H locs) (hA : ∀ q, H0.size ≤ q → A q)
    {n : Int32} {N' : Nat} (hn : ¬ n < 0) (hN : n.toNatClampNeg = N') (hbytes : N' * 4 ≤ 536870912) (hcells : cells + 1 ≤ R.cells) (hslots : slots + N' ≤ R.slots) (hdg : decode cc pc = .ok (.anewarray index, 3)) (t0 : Nat) {cX : ClassId} (ht : tys[t0]? = some (cX, .object C))
    (kk : ∀ (q : Nat) (H1 : Heap), va_P D cl (ws ++ [(q, .inl (cX, N', .inr (.inr (.inr (.inr (fun _ => none))))))]) H1 → va_D A (ws ++ [(q, .inl (cX, N', .inr (.inr (.inr (.inr (fun _ => none))))))]) → va_S A H0 H1 locs → W p l e R s m args below meth c H1 locs (cells + 1) (slots + N') Q (F0 m (pc + 3) ls (.ref q :: rest))) : W p l e R s m args below meth c H locs cells slots Q (F0 m pc ls (.int n :: rest)) := by
  refine va_newq hexec hb hown hclink hover hK hP hD hS hA hn hN hbytes hcells hslots hdg (fun q cA H1 hK1 hP1 hD1 hS1 => ?_)
  have e : cA = cX := by
    obtain ⟨_, _, _, _, _, h1⟩ := (hK1.2 tys.length (cA, .object C) (by simp)).2
    obtain ⟨_, _, _, _, _, h2⟩ := (hK.2 t0 _ ht).2
    exact Option.some.inj (h1.symm.trans h2)
  subst e
  exact kk q H1 hP1 hD1 hS1
theorem jc_vcall {dC : Nat → ClassId} {dI : Nat → Nat → Nat} {cA : Nat → ClassId} {ad adV : Nat → Nat} {ids : List Nat} {n mi idx nL c0 : Nat} {own : String} {as' : List jm_V} {M M1 : jm_Mem} (hexec : p.tables.exec = Jvm.exec) (hb : c.code = cc) (hml : c.maxLocals = nL) (hown : s.vm.findClass own = some m.cls) (hts : ∀ w ∈ jm_g, w.before args s = true) (hSn : jm_S l dC dI cA ad adV ids n) (hmi : mi < 216) (hv : (jm_mi mi).2.1 = 1) (hlink : Cond.methodLink own idx (jm_y mi) ∈ jm_g) (hsh : Nat.beq (jm_sh c0).1 (10 + (jm_mi mi).1) = true) (hc0 : c0 ∈ ids) (halo : jm_alo mi (.inr (.inl c0) :: as') = true) (has : ∀ v ∈ (.inr (.inl c0) :: as' : List jm_V), jm_okv ids mi v) (hlen : (parseMethodDescriptor (jm_y mi).desc).map (fun d => d.parameters.length) = some as'.length) (hwp : jm_wp n mi (0, jm_pad (.inr (.inl c0) :: as') (jm_mi mi).2.2.2.1, [], M) (fun r M' => r = none ∧ M' = M1)) (hM : jm_okM M) (h999 : M1 999 = M 999) (hP : va_P (dC, dI) vwCl (jm_wd cA ad ids M) H) (hwok : jm_wok ad ids A) (hctx : jm_ctx dC dI cA ad adV A s s.heap) (hS : va_S A s.heap H locs) (hA : ∀ q, s.heap.size ≤ q → A q) (hfr : (jm_mi mi).2.2.2.2.1 + 1 ≤ R.frames) (hlo : 8 + ((jm_mi mi).2.2.2.1 + 11) + (jm_mi mi).2.2.2.2.2.1 ≤ R.locals) (hcat : (rest.map fun v => v.category).sum ≤ 8) (hsz : ls.size = nL) (hcap : cells ≤ R.cells ∧ slots ≤ R.slots) (hdg : decode cc pc = .ok (.invokevirtual idx, 3))
    (kk : ∀ (H1 : Heap) (locs1 : List Loc), va_P (dC, dI) vwCl (jm_wd cA ad ids M1) H1 → jm_okM M1 → va_S A s.heap H1 locs1 → W p l e R s m args below meth c H1 locs1 cells slots Q (F0 m (pc + 3) ls rest)) : W p l e R s m args below meth c H locs cells slots Q (F0 m pc ls (((.inr (.inl c0) :: as' : List jm_V).map (jm_val ad)).reverse ++ rest)) := by
  obtain ⟨a1, a2, a3⟩ := jm_alo_of halo
  obtain ⟨n1, n2, n3, n4, n5, n6⟩ := jm_mn_ok mi hmi
  obtain ⟨v1, v2⟩ := jm_mv_ok mi hmi hv
  have hmet := js_met hSn H.size hmi hwp (Or.inl rfl) has a3 a2 hM hwok
  have z0 : (M1 999 0 - M 999 0).toNat = 0 := by rw [h999]; omega
  have z1 : (M1 999 1 - M 999 1).toNat = 0 := by rw [h999]; omega
  rw [z0, z1] at hmet
  have hcl : c0 < 95 := hwok.2.1 c0 hc0
  obtain ⟨o1, o2, o3, o4⟩ := jm_sh_obj hsh hcl
  obtain ⟨q0, -, hq⟩ := jm_wd_at (cA := cA) (ad := ad) (M := M) hc0
  rw [o4] at hq
  have hgood : GoodIn jm_g (wsV own idx (jm_y mi).cls (jm_y mi) (jm_ws mi)) := by
    intro w hw
    unfold wsV at hw
    have hin : w ∈ jm_g := by
      rcases List.mem_append.mp hw with hw | hw
      · simp only [List.mem_cons, List.not_mem_nil, or_false] at hw
        rcases hw with rfl | rfl | rfl | rfl
        · exact hlink
        · exact jm_in_g _ v1 rfl
        · exact jm_in_g _ v2 rfl
        · exact jm_in_g _ n1 rfl
      · rcases List.mem_cons.mp hw with rfl | hw
        · exact jm_mc_ok hmi
        · exact hw
    exact jm_g_good w hin
  have hrecv : ∃ cellB : Cell, H[ad c0]? = some cellB ∧ cellB.vm.isStatics = false ∧ s.vm.findClass (jm_y mi).cls = some cellB.cls := by
    have := va_recv hctx.1 hP (jm_cl_ok _ o1) hq
    rw [n2]
    exact this
  have hfree : ∀ q, va_A (jm_wd cA ad ids M) H.size q → A q := by
    intro q hq
    rcases hq with ⟨j, E, hj⟩ | hq
    · exact (jm_wd_D (cA := cA) M hwok).2 j (q, E) hj
    · exact hA q (Nat.le_trans hS.1 hq)
  have hpc : ∀ U : State, U.heap = H → s.WarmedH U.vm → (U.heap.size = H.size ∧ va_P (dC, dI) vwCl (jm_wd cA ad ids M) U.heap ∧ jm_ctx dC dI cA ad adV (va_A (jm_wd cA ad ids M) H.size) U U.heap) := by
    intro U hU hW
    refine ⟨by rw [hU], by rw [hU]; exact hP, ?_⟩
    rw [hU]
    exact jm_ctx_to hctx hW hS.2.1 hfree
  refine js_after (va_runV (As := as'.map (jm_val ad)) (rest := rest) (b := ad c0) ⟨hexec, hb, hml, hown, hts⟩ hmet (cwV (ret := jm_r mi) (bytes := jm_b mi) (maxL := (jm_mi mi).2.2.2.1) (R := R) (C := (jm_y mi).cls) as'.length hts hgood rfl rfl rfl ⟨rfl, n3, n4, hlen⟩ ⟨hfr, hlo⟩) ⟨fun a9 U g9 mk q => ⟨q.1, q.2.1, q.2.2.1, jm_ctx_blind q.2.2.2⟩, hrecv, fun U hU hW => ⟨rfl, hpc U hU hW⟩⟩ (g := F0 m pc ls (((.inr (.inl c0) :: as' : List jm_V).map (jm_val ad)).reverse ++ rest)) rfl (by rw [List.length_map]) hsz (by simp [jm_val]) (lv_room hcat) hdg hcap) hS (fun q _ hq => hfree q hq) hfree (r1 := none) (B := fun H1 => va_P (dC, dI) vwCl (jm_wd cA ad ids M1) H1 ∧ jm_okM M1) (fun s0 v t hs0 hq => ?_) (fun H1 locs1 hB hS1 => kk H1 locs1 hB.1 hB.2 hS1)
  obtain ⟨⟨q1, q2, q3, q4⟩, q5, q6⟩ := hq
  rw [hs0] at q5 q6
  cases q1
  exact ⟨rfl, ⟨q2, q3⟩, q5, q6⟩
end JC1
