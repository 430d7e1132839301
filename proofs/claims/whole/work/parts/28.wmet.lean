def jw_D1 (cc : ByteArray) (iv : Nat) : Prop := decode cc 0 = .ok (.aload_n 2, 1) ∧ decode cc 1 = .ok (.iconst 0, 1) ∧ decode cc 2 = .ok (.aload_n 0, 1) ∧ decode cc 3 = .ok (.iload_n 1, 1) ∧ decode cc 4 = .ok (.invokevirtual iv, 3) ∧ decode cc 7 = .ok (.i2l, 1) ∧ decode cc 8 = .ok (.lastore, 1) ∧ decode cc 9 = .ok (.goto 6, 3) ∧ decode cc 12 = .ok (.astore_n 3, 1) ∧ decode cc 13 = .ok (.iconst 1, 1) ∧ decode cc 14 = .ok (.ireturn, 1) ∧ decode cc 15 = .ok (.iconst 0, 1) ∧ decode cc 16 = .ok (.ireturn, 1)
theorem jw_met1 {l : Launch} {dC : Nat → ClassId} {dI : Nat → Nat → Nat} {cA : Nat → ClassId} {ad adV : Nat → Nat} {ids : List Nat} {n : Nat} (hl : l.stackTraces = false) (hS : jm_S l dC dI cA ad adV ids n) {y : MethodName} {cc : ByteArray} {iv mi : Nat} (hD : jw_D1 cc iv) (hy : plainName y.cls = true) (hyc : y.cls = RL) {x1 : Int} {M M2 : jm_Mem} {r : Int} (sz : Nat) (hmi : mi < 216) (hv : (jm_mi mi).2.1 = 1) (hcl : (jm_mi mi).1 = 9) (hn : (jm_mi mi).2.2.1 = 2) (hcat : 2 ≤ (jm_mi mi).2.2.2.1) (hlink : Cond.methodLink RL iv (jm_y mi) ∈ jm_g) (hclass : Cond.classLink RL 13 jx_N ∈ jm_g)
    (hwp : jm_wp n mi (0, jm_pad [.inr (.inl 0), .inl x1] (jm_mi mi).2.2.2.1, [], M) (fun r' M' => (r' = jm_thr ∧ r = 1 ∧ M2 = jm_gh M' 1 6) ∨ ∃ x, r' = some (.inl x) ∧ r = 0 ∧ M2 = jm_st M' 94 0 x))
    (has : ∀ v ∈ ([.inr (.inl 0), .inl x1] : List jm_V), jm_okv ids mi v) (h0 : 0 ∈ ids) (h94 : 94 ∈ ids) (hM : jm_okM M) {A0 : Nat → Prop} (wk : jm_wok ad ids A0) :
    Met l y (Cond.codeWith y cc 4 (some .int) [(0, 9, 12, 13)] :: jm_g) ({ frames := (jm_mi mi).2.2.2.2.1 + 1, cells := (M2 999 0 - M 999 0).toNat, slots := (M2 999 1 - M 999 1).toNat, locals := 8 + ((jm_mi mi).2.2.2.1 + 11) + (jm_mi mi).2.2.2.2.2.1 }) (va_Pc [.ref (ad 0), .int (Int32.ofInt x1), .ref (ad 94)] (jw_pre dC dI cA ad adV ids M sz)) (jw_post dC dI cA ad ids M2 r (va_A (jm_wd cA ad ids M) sz)) (M2 999 0 - M 999 0).toNat (M2 999 1 - M 999 1).toNat (va_A (jm_wd cA ad ids M) sz) := by
  obtain ⟨e0, e1, e2, e3, e4, e5, e6, e7, e8, e9, e10, e11, e12⟩ := hD
  obtain ⟨r1, M1, hk, hdet⟩ := jm_wp_det _ _ _ _ hwp
  have hwp1 : jm_wp n mi (0, jm_pad [.inr (.inl 0), .inl x1] (jm_mi mi).2.2.2.1, [], M) (fun r' M' => r' = r1 ∧ M' = M1) := hdet n (Nat.le_refl _) _ ⟨rfl, rfl⟩
  obtain ⟨r2, M3, ⟨q1, q2⟩, hle⟩ := jm_wp_le _ _ _ _ hwp1
  subst q1; subst q2
  have hle0 : M 999 0 ≤ M3 999 0 := hle.1
  have hle1 : M 999 1 ≤ M3 999 1 := hle.2.1
  have hnl : ∀ v ∈ ([.inr (.inl 0), .inl x1] : List jm_V), ∀ x, v = .inr (.inr x) → mi = 140 := by
    intro v hv' x hx
    subst hx
    simp at hv'
  refine va_MetW (cc := cc) (maxL := 4) (ret := some .int) (hh := [(0, 9, 12, 13)]) hy rfl ?_
  intro p e s mid args below meth c s₁ B hml hv'
  obtain ⟨rfl, hsz, hP, hC⟩ := hv'
  subst hsz
  have hx := B.exec
  have hb := B.bytes
  have hr := B.returns
  have hlocks := B.notSynchronized
  have hts0 := atoms_spec (ws := Cond.codeWith y cc 4 (some .int) [(0, 9, 12, 13)] :: jm_g) B.pre
  have hts : ∀ w ∈ jm_g, w.before _ s = true := fun w h => hts0 w (List.mem_cons_of_mem _ h)
  have htab := vx_table (x := y) B (hts0 _ List.mem_cons_self)
  have hown : s.vm.findClass RL = some mid.cls := by
    rw [← hyc]
    exact findClass_of_methodNamed B.named
  have hll := lv_entry ([.ref (ad 0), .int (Int32.ofInt x1), .ref (ad 94)] : List Value) (n := 4) (Nat.le_of_ble_eq_true rfl)
  rw [lg_entry_eq]
  generalize (lg_sl ([.ref (ad 0), .int (Int32.ofInt x1), .ref (ad 94)] : List Value) ++ List.replicate (4 - (lg_sl ([.ref (ad 0), .int (Int32.ofInt x1), .ref (ad 94)] : List Value)).length) Slot.unset).toArray = JL at hll ⊢
  have hll : lv_has JL 4 [(0, .ref (ad 0)), (1, .int (Int32.ofInt x1)), (2, .ref (ad 94))] := hll
  refine lv_aload_n hx hb e0 rfl (lv_at hll 2 rfl) ?_
  refine lv_iconst (v := 0) hx hb e1 (by decide) ?_
  refine lv_aload_n hx hb e2 rfl (lv_at hll 0 rfl) ?_
  refine lv_iload_n hx hb e3 rfl (lv_at hll 1 rfl) ?_
  rcases hk with ⟨rfl, rfl, rfl⟩ | ⟨x, rfl, rfl, rfl⟩
  · have m0 : (jm_gh M3 1 6 999 0 - M 999 0).toNat = (M3 999 0 - M 999 0).toNat + 1 := by rw [jm_gh_a]; omega
    have m1 : (jm_gh M3 1 6 999 1 - M 999 1).toNat = (M3 999 1 - M 999 1).toNat + 6 := by rw [jm_gh_b]; omega
    have hwd : jm_wd cA ad ids (jm_gh M3 1 6) = jm_wd cA ad ids M3 := by
      unfold jm_wd
      refine List.map_congr_left (fun d hd => ?_)
      have hd9 := wk.2.1 d hd
      have : jm_ce cA ad (jm_gh M3 1 6) d = jm_ce cA ad M3 d := jm_ce_congr (jm_gh_o 1 6 (by omega))
      rw [this]
    refine jw_thr (mi := mi) (as' := [.inl x1]) (M1 := M3) (mc := (M3 999 0 - M 999 0).toNat + 1) (ms := (M3 999 1 - M 999 1).toNat + 6) (nL := 4) (pc := 4) hx hb hml hown hts hmi hv hcl hn hlink hll.1 hP hC h0 rfl rfl ⟨Nat.le_refl _, Nat.le_refl _⟩ ⟨by show _ ≤ (jm_gh M3 1 6 999 0 - M 999 0).toNat; rw [m0]; exact Nat.le_refl _, by show _ ≤ (jm_gh M3 1 6 999 1 - M 999 1).toNat; rw [m1]; exact Nat.le_refl _⟩ (js_xmet hl hS s.heap.size hmi hwp1 has hnl hcat hM wk) e4 htab rfl hclass (fun H1 locs1 q gP gM gS => ?_)
    refine lv_astore_n (lv' := [(3, .ref q), (0, .ref (ad 0)), (1, .int (Int32.ofInt x1)), (2, .ref (ad 94))]) hx hb e8 rfl hll (by decide) rfl (fun L1 g1 => ?_)
    refine lv_iconst (v := 1) hx hb e9 (by decide) ?_
    rw [← m0, ← m1]
    exact W.iret hx hb hr (fun t ht _ => ⟨⟨rfl, by rw [ht, hwd]; exact gP, jm_okM_gh gM⟩, gS.F ht⟩) gS.2.2 e10
  · have m0 : jm_st M3 94 0 x 999 = M3 999 := jm_st_ne (by decide)
    rw [m0]
    refine jw_num (mi := mi) (as' := [.inl x1]) (M1 := M3) (x := x) (mc := (M3 999 0 - M 999 0).toNat) (ms := (M3 999 1 - M 999 1).toNat) (nL := 4) (pc := 4) hx hb hml hown hts hmi hv hcl hn hlink hll.1 hP hC h0 h94 wk rfl rfl ⟨Nat.le_refl _, Nat.le_refl _⟩ ⟨by show _ ≤ (jm_st M3 94 0 x 999 0 - M 999 0).toNat; rw [m0]; exact Nat.le_refl _, by show _ ≤ (jm_st M3 94 0 x 999 1 - M 999 1).toNat; rw [m0]; exact Nat.le_refl _⟩ (js_met hS s.heap.size hmi hwp1 (Or.inr ⟨x, rfl⟩) has hnl hcat hM wk) e4 e5 e6 (fun H1 locs1 gP gM gS => ?_)
    refine lv_goto (tgt := 15) hx hb e7 (by decide) ?_
    refine lv_iconst (v := 0) hx hb e11 (by decide) ?_
    exact W.iret hx hb hr (fun t ht _ => ⟨⟨rfl, by rw [ht]; exact gP, gM⟩, gS.F ht⟩) gS.2.2 e12
def jw_D2 (cc : ByteArray) (iv : Nat) : Prop := decode cc 0 = .ok (.aload_n 3, 1) ∧ decode cc 1 = .ok (.iconst 0, 1) ∧ decode cc 2 = .ok (.aload_n 0, 1) ∧ decode cc 3 = .ok (.iload_n 1, 1) ∧ decode cc 4 = .ok (.iload_n 2, 1) ∧ decode cc 5 = .ok (.invokevirtual iv, 3) ∧ decode cc 8 = .ok (.i2l, 1) ∧ decode cc 9 = .ok (.lastore, 1) ∧ decode cc 10 = .ok (.goto 7, 3) ∧ decode cc 13 = .ok (.astore 4, 2) ∧ decode cc 15 = .ok (.iconst 1, 1) ∧ decode cc 16 = .ok (.ireturn, 1) ∧ decode cc 17 = .ok (.iconst 0, 1) ∧ decode cc 18 = .ok (.ireturn, 1)
theorem jw_met2 {l : Launch} {dC : Nat → ClassId} {dI : Nat → Nat → Nat} {cA : Nat → ClassId} {ad adV : Nat → Nat} {ids : List Nat} {n : Nat} (hl : l.stackTraces = false) (hS : jm_S l dC dI cA ad adV ids n) {y : MethodName} {cc : ByteArray} {iv mi : Nat} (hD : jw_D2 cc iv) (hy : plainName y.cls = true) (hyc : y.cls = RL) {x1 x2 : Int} {M M2 : jm_Mem} {r : Int} (sz : Nat) (hmi : mi < 216) (hv : (jm_mi mi).2.1 = 1) (hcl : (jm_mi mi).1 = 9) (hn : (jm_mi mi).2.2.1 = 3) (hcat : 3 ≤ (jm_mi mi).2.2.2.1) (hlink : Cond.methodLink RL iv (jm_y mi) ∈ jm_g) (hclass : Cond.classLink RL 13 jx_N ∈ jm_g)
    (hwp : jm_wp n mi (0, jm_pad [.inr (.inl 0), .inl x1, .inl x2] (jm_mi mi).2.2.2.1, [], M) (fun r' M' => (r' = jm_thr ∧ r = 1 ∧ M2 = jm_gh M' 1 6) ∨ ∃ x, r' = some (.inl x) ∧ r = 0 ∧ M2 = jm_st M' 94 0 x))
    (has : ∀ v ∈ ([.inr (.inl 0), .inl x1, .inl x2] : List jm_V), jm_okv ids mi v) (h0 : 0 ∈ ids) (h94 : 94 ∈ ids) (hM : jm_okM M) {A0 : Nat → Prop} (wk : jm_wok ad ids A0) :
    Met l y (Cond.codeWith y cc 5 (some .int) [(0, 10, 13, 13)] :: jm_g) ({ frames := (jm_mi mi).2.2.2.2.1 + 1, cells := (M2 999 0 - M 999 0).toNat, slots := (M2 999 1 - M 999 1).toNat, locals := 8 + ((jm_mi mi).2.2.2.1 + 11) + (jm_mi mi).2.2.2.2.2.1 }) (va_Pc [.ref (ad 0), .int (Int32.ofInt x1), .int (Int32.ofInt x2), .ref (ad 94)] (jw_pre dC dI cA ad adV ids M sz)) (jw_post dC dI cA ad ids M2 r (va_A (jm_wd cA ad ids M) sz)) (M2 999 0 - M 999 0).toNat (M2 999 1 - M 999 1).toNat (va_A (jm_wd cA ad ids M) sz) := by
  obtain ⟨e0, e1, e2, e3, e4, e5, e6, e7, e8, e9, e10, e11, e12, e13⟩ := hD
  obtain ⟨r1, M1, hk, hdet⟩ := jm_wp_det _ _ _ _ hwp
  have hwp1 : jm_wp n mi (0, jm_pad [.inr (.inl 0), .inl x1, .inl x2] (jm_mi mi).2.2.2.1, [], M) (fun r' M' => r' = r1 ∧ M' = M1) := hdet n (Nat.le_refl _) _ ⟨rfl, rfl⟩
  obtain ⟨r2, M3, ⟨q1, q2⟩, hle⟩ := jm_wp_le _ _ _ _ hwp1
  subst q1; subst q2
  have hle0 : M 999 0 ≤ M3 999 0 := hle.1
  have hle1 : M 999 1 ≤ M3 999 1 := hle.2.1
  have hnl : ∀ v ∈ ([.inr (.inl 0), .inl x1, .inl x2] : List jm_V), ∀ x, v = .inr (.inr x) → mi = 140 := by
    intro v hv' x hx
    subst hx
    simp at hv'
  refine va_MetW (cc := cc) (maxL := 5) (ret := some .int) (hh := [(0, 10, 13, 13)]) hy rfl ?_
  intro p e s mid args below meth c s₁ B hml hv'
  obtain ⟨rfl, hsz, hP, hC⟩ := hv'
  subst hsz
  have hx := B.exec
  have hb := B.bytes
  have hr := B.returns
  have hlocks := B.notSynchronized
  have hts0 := atoms_spec (ws := Cond.codeWith y cc 5 (some .int) [(0, 10, 13, 13)] :: jm_g) B.pre
  have hts : ∀ w ∈ jm_g, w.before _ s = true := fun w h => hts0 w (List.mem_cons_of_mem _ h)
  have htab := vx_table (x := y) B (hts0 _ List.mem_cons_self)
  have hown : s.vm.findClass RL = some mid.cls := by
    rw [← hyc]
    exact findClass_of_methodNamed B.named
  have hll := lv_entry ([.ref (ad 0), .int (Int32.ofInt x1), .int (Int32.ofInt x2), .ref (ad 94)] : List Value) (n := 5) (Nat.le_of_ble_eq_true rfl)
  rw [lg_entry_eq]
  generalize (lg_sl ([.ref (ad 0), .int (Int32.ofInt x1), .int (Int32.ofInt x2), .ref (ad 94)] : List Value) ++ List.replicate (5 - (lg_sl ([.ref (ad 0), .int (Int32.ofInt x1), .int (Int32.ofInt x2), .ref (ad 94)] : List Value)).length) Slot.unset).toArray = JL at hll ⊢
  have hll : lv_has JL 5 [(0, .ref (ad 0)), (1, .int (Int32.ofInt x1)), (2, .int (Int32.ofInt x2)), (3, .ref (ad 94))] := hll
  refine lv_aload_n hx hb e0 rfl (lv_at hll 3 rfl) ?_
  refine lv_iconst (v := 0) hx hb e1 (by decide) ?_
  refine lv_aload_n hx hb e2 rfl (lv_at hll 0 rfl) ?_
  refine lv_iload_n hx hb e3 rfl (lv_at hll 1 rfl) ?_
  refine lv_iload_n hx hb e4 rfl (lv_at hll 2 rfl) ?_
  rcases hk with ⟨rfl, rfl, rfl⟩ | ⟨x, rfl, rfl, rfl⟩
  · have m0 : (jm_gh M3 1 6 999 0 - M 999 0).toNat = (M3 999 0 - M 999 0).toNat + 1 := by rw [jm_gh_a]; omega
    have m1 : (jm_gh M3 1 6 999 1 - M 999 1).toNat = (M3 999 1 - M 999 1).toNat + 6 := by rw [jm_gh_b]; omega
    have hwd : jm_wd cA ad ids (jm_gh M3 1 6) = jm_wd cA ad ids M3 := by
      unfold jm_wd
      refine List.map_congr_left (fun d hd => ?_)
      have hd9 := wk.2.1 d hd
      have : jm_ce cA ad (jm_gh M3 1 6) d = jm_ce cA ad M3 d := jm_ce_congr (jm_gh_o 1 6 (by omega))
      rw [this]
    refine jw_thr (mi := mi) (as' := [.inl x1, .inl x2]) (M1 := M3) (mc := (M3 999 0 - M 999 0).toNat + 1) (ms := (M3 999 1 - M 999 1).toNat + 6) (nL := 5) (pc := 5) hx hb hml hown hts hmi hv hcl hn hlink hll.1 hP hC h0 rfl rfl ⟨Nat.le_refl _, Nat.le_refl _⟩ ⟨by show _ ≤ (jm_gh M3 1 6 999 0 - M 999 0).toNat; rw [m0]; exact Nat.le_refl _, by show _ ≤ (jm_gh M3 1 6 999 1 - M 999 1).toNat; rw [m1]; exact Nat.le_refl _⟩ (js_xmet hl hS s.heap.size hmi hwp1 has hnl hcat hM wk) e5 htab rfl hclass (fun H1 locs1 q gP gM gS => ?_)
    refine lv_astore (lv' := [(4, .ref q), (0, .ref (ad 0)), (1, .int (Int32.ofInt x1)), (2, .int (Int32.ofInt x2)), (3, .ref (ad 94))]) hx hb e9 hll (by decide) rfl (fun L1 g1 => ?_)
    refine lv_iconst (v := 1) hx hb e10 (by decide) ?_
    rw [← m0, ← m1]
    exact W.iret hx hb hr (fun t ht _ => ⟨⟨rfl, by rw [ht, hwd]; exact gP, jm_okM_gh gM⟩, gS.F ht⟩) gS.2.2 e11
  · have m0 : jm_st M3 94 0 x 999 = M3 999 := jm_st_ne (by decide)
    rw [m0]
    refine jw_num (mi := mi) (as' := [.inl x1, .inl x2]) (M1 := M3) (x := x) (mc := (M3 999 0 - M 999 0).toNat) (ms := (M3 999 1 - M 999 1).toNat) (nL := 5) (pc := 5) hx hb hml hown hts hmi hv hcl hn hlink hll.1 hP hC h0 h94 wk rfl rfl ⟨Nat.le_refl _, Nat.le_refl _⟩ ⟨by show _ ≤ (jm_st M3 94 0 x 999 0 - M 999 0).toNat; rw [m0]; exact Nat.le_refl _, by show _ ≤ (jm_st M3 94 0 x 999 1 - M 999 1).toNat; rw [m0]; exact Nat.le_refl _⟩ (js_met hS s.heap.size hmi hwp1 (Or.inr ⟨x, rfl⟩) has hnl hcat hM wk) e5 e6 e7 (fun H1 locs1 gP gM gS => ?_)
    refine lv_goto (tgt := 17) hx hb e8 (by decide) ?_
    refine lv_iconst (v := 0) hx hb e12 (by decide) ?_
    exact W.iret hx hb hr (fun t ht _ => ⟨⟨rfl, by rw [ht]; exact gP, gM⟩, gS.F ht⟩) gS.2.2 e13
