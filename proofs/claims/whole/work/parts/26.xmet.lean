/-- every place that throws: its code, its method's room -/
def jx_ck (m k : Nat) (e : Instr × Nat × Int) : Bool := match e.1 with
  | .new i => Nat.beq i 153 && (Nat.beq (jm_mi m).1 9 && (Nat.ble 6 (jm_mi m).2.2.2.2.1 && (Nat.ble 82 (jm_mi m).2.2.2.2.2.1 && (decide (decode (jm_b m) (jm_bp m k) = .ok (.new 153, 3)) && (decide (decode (jm_b m) (jm_bp m k + 3) = .ok (.dup, 1)) && ((List.range 5).any (fun j => decide (decode (jm_b m) (jm_bp m k + 4) = .ok (.ldc (jm_xix.getD j 0), 2))) && (decide (decode (jm_b m) (jm_bp m k + 6) = .ok (.invokespecial 157, 3)) && decide (decode (jm_b m) (jm_bp m k + 9) = .ok (.athrow, 1)))))))))
  | _ => true
def jx_ckL (m : Nat) : Nat → List (Instr × Nat × Int) → Bool
  | _, [] => true
  | k, e :: l => jx_ck m k e && jx_ckL m (k + 1) l
set_option maxRecDepth 100000 in
theorem jx_ok : ∀ m, m < 216 → jx_ckL m 0 ((jm_nth jm_cdT m).getD []) = true := by decide +kernel
theorem jx_ckL_at (m : Nat) : ∀ (l : List (Instr × Nat × Int)) (j i : Nat) (e : Instr × Nat × Int), jx_ckL m j l = true → jm_nth l i = some e → jx_ck m (j + i) e = true
  | [], _, _, _, _, h => nomatch h
  | a :: l, j, 0, e, h, hi => by
    have h1 : (jx_ck m j a && jx_ckL m (j + 1) l) = true := h
    rw [Bool.and_eq_true] at h1
    have h2 : a = e := Option.some.inj hi
    rw [← h2]
    exact h1.1
  | a :: l, j, i + 1, e, h, hi => by
    have h1 : (jx_ck m j a && jx_ckL m (j + 1) l) = true := h
    rw [Bool.and_eq_true] at h1
    have := jx_ckL_at m l (j + 1) i e h1.2 hi
    rw [show j + (i + 1) = j + 1 + i by omega]
    exact this
theorem jx_new {m k i a : Nat} {z : Int} (hm : m < 216) (h : jm_rc m k = some (.new i, a, z)) : (jm_mi m).1 = 9 ∧ 6 ≤ (jm_mi m).2.2.2.2.1 ∧ 82 ≤ (jm_mi m).2.2.2.2.2.1 ∧ decode (jm_b m) (jm_bp m k) = .ok (.new 153, 3) ∧ decode (jm_b m) (jm_bp m k + 3) = .ok (.dup, 1) ∧ (∃ j, j < 5 ∧ decode (jm_b m) (jm_bp m k + 4) = .ok (.ldc (jm_xix.getD j 0), 2)) ∧ decode (jm_b m) (jm_bp m k + 6) = .ok (.invokespecial 157, 3) ∧ decode (jm_b m) (jm_bp m k + 9) = .ok (.athrow, 1) := by
  unfold jm_rc at h
  have h0 := jx_ok m hm
  cases hl : jm_nth jm_cdT m with
  | none => rw [hl] at h; cases h
  | some l =>
    rw [hl] at h h0
    have h1 := jx_ckL_at m l 0 k _ h0 h
    rw [Nat.zero_add] at h1
    have h1 : (Nat.beq i 153 && (Nat.beq (jm_mi m).1 9 && (Nat.ble 6 (jm_mi m).2.2.2.2.1 && (Nat.ble 82 (jm_mi m).2.2.2.2.2.1 && (decide (decode (jm_b m) (jm_bp m k) = .ok (.new 153, 3)) && (decide (decode (jm_b m) (jm_bp m k + 3) = .ok (.dup, 1)) && ((List.range 5).any (fun j => decide (decode (jm_b m) (jm_bp m k + 4) = .ok (.ldc (jm_xix.getD j 0), 2))) && (decide (decode (jm_b m) (jm_bp m k + 6) = .ok (.invokespecial 157, 3)) && decide (decode (jm_b m) (jm_bp m k + 9) = .ok (.athrow, 1)))))))))) = true := h1
    simp only [Bool.and_eq_true] at h1
    obtain ⟨-, b1, b2, b3, b4, b5, b6, b7, b8⟩ := h1
    obtain ⟨j, hj, b6⟩ := List.any_eq_true.mp b6
    exact ⟨Nat.eq_of_beq_eq_true b1, Nat.le_of_ble_eq_true b2, Nat.le_of_ble_eq_true b3, of_decide_eq_true b4, of_decide_eq_true b5, ⟨j, List.mem_range.mp hj, of_decide_eq_true b6⟩, of_decide_eq_true b7, of_decide_eq_true b8⟩
/-- what holds where a method of the class has thrown -/
def jx_X (dC : Nat → ClassId) (dI : Nat → Nat → Nat) (cA : Nat → ClassId) (ad : Nat → Nat) (ids : List Nat) (M1 : jm_Mem) (A : Nat → Prop) : String → State → State → Prop := fun E st t => E = jx_N ∧ va_P (dC, dI) vwCl (jm_wd cA ad ids M1) t.heap ∧ jm_okM M1 ∧ va_F A st t
/-- the contract of a method that throws here, out of soundness -/
theorem js_xmet {l : Launch} {dC : Nat → ClassId} {dI : Nat → Nat → Nat} {cA : Nat → ClassId} {ad adV : Nat → Nat} {ids : List Nat} {n : Nat} (hl : l.stackTraces = false) (hS : jm_S l dC dI cA ad adV ids n) {mi : Nat} {as : List jm_V} {M M1 : jm_Mem} (sz : Nat) (hmi : mi < 216) (hwp : jm_wp n mi (0, jm_pad as (jm_mi mi).2.2.2.1, [], M) (fun r M' => r = jm_thr ∧ M' = M1)) (has : ∀ v ∈ as, jm_okv ids mi v) (hnl : ∀ v ∈ as, ∀ x, v = .inr (.inr x) → mi = 140) (hcat : jm_cat as ≤ (jm_mi mi).2.2.2.1) (hM : jm_okM M) {A0 : Nat → Prop} (wk : jm_wok ad ids A0) :
    vx_Met l (jm_y mi) (jm_ws mi) ({ frames := (jm_mi mi).2.2.2.2.1, cells := (M1 999 0 - M 999 0).toNat + 1, slots := (M1 999 1 - M 999 1).toNat + 6, locals := (jm_mi mi).2.2.2.2.2.1 }) (va_Pc (as.map (jm_val ad)) (fun U => U.heap.size = sz ∧ va_P (dC, dI) vwCl (jm_wd cA ad ids M) U.heap ∧ jm_ctx dC dI cA ad adV (va_A (jm_wd cA ad ids M) sz) U U.heap)) (fun _ _ _ _ => False) (jx_X dC dI cA ad ids M1 (va_A (jm_wd cA ad ids M) sz)) ((M1 999 0 - M 999 0).toNat + 1) ((M1 999 1 - M 999 1).toNat + 6) (va_A (jm_wd cA ad ids M) sz) := by
  obtain ⟨n1, n2, -, -, -, n6⟩ := jm_mn_ok mi hmi
  refine vx_ofW (cc := jm_b mi) (maxL := (jm_mi mi).2.2.2.1) (ret := jm_r mi) n6 rfl ?_
  intro p e s mid args below meth c s₁ B hml htab hv
  obtain ⟨rfl, hsz, hP, hC⟩ := hv
  have hts := atoms_spec (ws := jm_ws mi) B.pre
  have hown : s.vm.findClass (jm_y mi).cls = some mid.cls := findClass_of_methodNamed B.named
  have hlocks := B.notSynchronized
  subst hsz
  have hF : jm_F p ({ frames := (jm_mi mi).2.2.2.2.1, cells := (M1 999 0 - M 999 0).toNat + 1, slots := (M1 999 1 - M 999 1).toNat + 6, locals := (jm_mi mi).2.2.2.2.2.1 }) s mid (as.map (jm_val ad)).toArray c dC dI cA ad adV ids (va_A (jm_wd cA ad ids M) s.heap.size) mi := by
    refine ⟨B.exec, B.bytes, hml, by rw [← n2]; exact hown, fun w h => hts w (List.mem_cons_of_mem _ h), Nat.le_refl _, Nat.le_refl _, hC, ⟨wk.1, wk.2.1, wk.2.2.1, fun d hd => ?_, wk.2.2.2.2⟩, fun q h => Or.inr h⟩
    obtain ⟨q0, -, hq⟩ := jm_wd_at (cA := cA) (ad := ad) (M := M) hd
    exact Or.inl ⟨q0, _, hq⟩
  have hll := lv_entry (as.map (jm_val ad)) (n := (jm_mi mi).2.2.2.1) (by rw [jm_sl_len]; exact hcat)
  rw [lg_entry_eq]
  generalize (lg_sl (as.map (jm_val ad)) ++ List.replicate ((jm_mi mi).2.2.2.1 - (lg_sl (as.map (jm_val ad))).length) Slot.unset).toArray = JL at hll ⊢
  have hmz : mi ≠ 216 := by omega
  have hG := hS mi _ _ hwp p e ({ frames := (jm_mi mi).2.2.2.2.1, cells := (M1 999 0 - M 999 0).toNat + 1, slots := (M1 999 1 - M 999 1).toNat + 6, locals := (jm_mi mi).2.2.2.2.2.1 }) s mid _ below meth c (va_A (jm_wd cA ad ids M) s.heap.size) (vx_MQ below (fun _ _ _ _ => False) (jx_X dC dI cA ad ids M1 (va_A (jm_wd cA ad ids M) s.heap.size)) (as.map (jm_val ad)).toArray s ((M1 999 0 - M 999 0).toNat + 1) ((M1 999 1 - M 999 1).toNat + 6) (va_A (jm_wd cA ad ids M) s.heap.size)) (M 999 0) (M 999 1) (fun _ => 0) hF (fun q => absurd q hmz) (fun r M' h => by rw [h.2]; exact ⟨Nat.le_succ _, Nat.le_add_right _ _⟩) (by
      intro r M' k' JL' H locs hq he hoM hsz' hP' hS' hg1 hg2
      obtain ⟨rfl, rfl⟩ := hq
      obtain ⟨i, a, z, hrc⟩ := he
      obtain ⟨c1, c2, c3, d0, d3, ⟨j, hj, d4⟩, d6, d9⟩ := jx_new hmi hrc
      obtain ⟨sa, hstr⟩ := hC.2.2.2.1 j hj
      have hown9 : s.vm.findClass RX9 = some mid.cls := by
        rw [n2, c1] at hown
        exact hown
      exact jx_throw (sa := sa) B.exec B.bytes hl hown9 (fun w h => hts w (List.mem_cons_of_mem _ h)) hC.2.2.2.2.2.2.2.2 hstr hC.2.2.2.2.1 hC.2.2.2.2.2.1 hS' (hsz'.trans hml.symm) d0 d3 d4 d6 d9 (fun x hx => (htab x hx).elim) (by show 5 < (jm_mi mi).2.2.2.2.1; omega) (by show 0 + 82 ≤ (jm_mi mi).2.2.2.2.2.1; omega) (Nat.le_refl _) (Nat.le_refl _) hlocks (fun t _ ht1 ht2 => ⟨rfl, hP'.kept (fun k q hk => ht2 _ ((hP' k q hk).lt)), hoM, Nat.le_trans hS'.1 ht1, fun q hq1 hq2 => (ht2 q (Nat.lt_of_lt_of_le hq1 hS'.1)).trans (hS'.2.1 q hq1 hq2)⟩) hS'.2.2 (Nat.le_refl _) (Nat.le_refl _))
  have := hG JL s.heap [] ⟨hll.1, hll.2.1, fun i v hv => ?_⟩ (fun v hv => nomatch hv) hM hP va_S.rf (Int.le_refl _) (Int.le_refl _) (fun q => absurd q hmz)
  · dsimp only at this
    rw [Int.sub_self, Int.sub_self] at this
    have hbp : jm_bp mi 0 = 0 := by
      have : ∀ q, q < 216 → jm_bp q 0 = 0 := by decide +kernel
      exact this mi hmi
    rw [hbp] at this
    exact this
  · obtain ⟨h1, h2⟩ := jm_pad_at (ad := ad) as _ 0 i v hv
    rw [Nat.zero_add] at h1
    exact ⟨hll.2.2 _ h1, has v h2, fun x hx => hnl v h2 x hx⟩
