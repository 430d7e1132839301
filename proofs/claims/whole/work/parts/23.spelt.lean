/-! SPELT: five codes to a number (it makes one cell of five slots) -/
set_option maxRecDepth 100000 in
theorem je_t : lw_tbl[1366]? = some (.static yX10_spelt) ∧ lw_tbl[179]? = some (.arrayClass .int) ∧ lw_tbl[1355]? = some (.constantLong RX10 169 27) ∧ lw_tbl[1356]? = some (.constantLong RX10 171 96) ∧ lw_tbl[117]? = some (.initialized RX10) := by decide +kernel
set_option maxRecDepth 100000 in
theorem je_c : lw_tbl[1367]? = some (.code yX10_spelt cX10_spelt 9 (some .long)) := rfl
theorem je_n : (∀ j, j < 5 → ¬ ((5 : Int32) ≤ nI j)) ∧ ((5 : Int32) ≤ nI 5) ∧ (∀ j, j < 5 → nI j + Int32.ofInt 1 = nI (j + 1)) := by decide +kernel
section JE
variable {p : Program} {l : Launch} {e : Env} {R : Room} {s : State} {mid : MethodId} {args : Array Value} {below : List Frame} {meth : Method} {c : Code} {H : Heap} {locs : List Loc} {cells slots : Nat} {FQ : State → Prop}
theorem je_iter {D : va_G} {tys : List (ClassId × FieldType)} {ws : va_W} {q : Nat} {cA : ClassId} {f : Nat → Int32} {JL : Array Slot} (hx : p.tables.exec = Jvm.exec) (hb : c.code = cX10_spelt) (hown : s.vm.findClass RX10 = some mid.cls) (hts : ∀ w ∈ jm_g, w.before args s = true) (hK : va_K D [] tys s) (ht : tys[0]? = some (cA, .int)) (hP : va_P D [] ws H) (hw : ws[0]? = some (q, .inl (cA, 5, .inl f))) (j : Nat) (hj : j < 5) (v x : Int) (hf : f j = Int32.ofInt x) (bx : 0 ≤ x ∧ x ≤ 255) (hl : lv_has JL 9 [(8, .int (nI j)), (7, .ref q), (5, .long (Int64.ofInt v))])
    (kk : ∀ JL', lv_has JL' 9 [(8, .int (nI (j + 1))), (7, .ref q), (5, .long (Int64.ofInt (jm_spl v x)))] → W p l e R s mid args below meth c H locs cells slots FQ (F0 mid 32 JL' [])) : W p l e R s mid args below meth c H locs cells slots FQ (F0 mid 32 JL []) := by
  have hjx : jm_in x := ⟨by omega, by omega⟩
  have hcl : (nI j).toNatClampNeg = j := nI_clamp (by omega)
  have rest : ∀ (u : Int) (JL' : Array Slot), u = jm_spl v x → lv_has JL' 9 [(8, .int (nI j)), (7, .ref q), (5, .long (Int64.ofInt v))] → W p l e R s mid args below meth c H locs cells slots FQ (F0 mid 68 JL' [.long (Int64.ofInt u)]) := by
    intro u JL' hu h
    subst hu
    refine lv_lstore (lv' := [(5, .long (Int64.ofInt (jm_spl v x))), (8, .int (nI j)), (7, .ref q)]) hx hb (show decode cX10_spelt 68 = .ok (.lstore 5, 2) by decide +kernel) h (by decide) rfl (fun L1 h1 => ?_)
    refine lv_iinc (k := 1) (v := nI (j + 1)) (lv' := [(8, .int (nI (j + 1))), (5, .long (Int64.ofInt (jm_spl v x))), (7, .ref q)]) hx hb (show decode cX10_spelt 70 = .ok (.iinc 8 1, 3) by decide +kernel) h1 rfl (je_n.2.2 j hj) (by decide) rfl (fun L2 h2 => ?_)
    refine lv_goto (tgt := 32) hx hb (show decode cX10_spelt 73 = .ok (.goto (-41), 3) by decide +kernel) (by decide) ?_
    exact kk L2 (lv_sub h2 [0, 2, 1] rfl)
  refine lv_iload hx hb (show decode cX10_spelt 32 = .ok (.iload 8, 2) by decide +kernel) (lv_at hl 0 rfl) ?_
  refine lv_iconst (v := 5) hx hb (show decode cX10_spelt 34 = .ok (.iconst 5, 1) by decide +kernel) (by decide) ?_
  refine lv_icmp_ge (tgt := 76) hx hb (show decode cX10_spelt 35 = .ok (.if_icmp .ge 41, 3) by decide +kernel) (by decide) (fun z => absurd z (je_n.1 j hj)) (fun _ => ?_)
  refine lv_aload hx hb (show decode cX10_spelt 38 = .ok (.aload 7, 2) by decide +kernel) (lv_at hl 1 rfl) ?_
  refine lv_iload hx hb (show decode cX10_spelt 40 = .ok (.iload 8, 2) by decide +kernel) (lv_at hl 0 rfl) ?_
  refine va_iald hx hb hK hP 0 0 hw ht (vp_in_nI hj (by decide)) (show decode cX10_spelt 42 = .ok (.iaload, 1) by decide +kernel) ?_
  rw [hcl, hf]
  refine lv_if_le (tgt := 66) hx hb (show decode cX10_spelt 43 = .ok (.ifCond .le 23, 3) by decide +kernel) (by decide) (fun z => ?_) (fun z => ?_)
  · refine lv_lload hx hb (show decode cX10_spelt 66 = .ok (.lload 5, 2) by decide +kernel) (lv_at hl 2 rfl) ?_
    refine rest v JL ?_ hl
    unfold jm_spl
    rw [if_neg (fun z2 => absurd ((jn_le hjx jn_in0).mp z) (by omega))]
  · refine lv_ldc2 (v := 27) hx hb hown (hts _ (jm_in_g _ je_t.2.2.1 rfl)) (show decode cX10_spelt 46 = .ok (.ldc2_w 169, 3) by decide +kernel) ?_
    refine lv_lload hx hb (show decode cX10_spelt 49 = .ok (.lload 5, 2) by decide +kernel) (lv_at hl 2 rfl) ?_
    refine lv_lmul hx hb (show decode cX10_spelt 51 = .ok (.lmul, 1) by decide +kernel) ?_
    refine lv_aload hx hb (show decode cX10_spelt 52 = .ok (.aload 7, 2) by decide +kernel) (lv_at hl 1 rfl) ?_
    refine lv_iload hx hb (show decode cX10_spelt 54 = .ok (.iload 8, 2) by decide +kernel) (lv_at hl 0 rfl) ?_
    refine va_iald hx hb hK hP 0 0 hw ht (vp_in_nI hj (by decide)) (show decode cX10_spelt 56 = .ok (.iaload, 1) by decide +kernel) ?_
    rw [hcl, hf]
    refine lv_i2l (v := Int64.ofInt x) hx hb (show decode cX10_spelt 57 = .ok (.i2l, 1) by decide +kernel) (jn_long hjx) ?_
    refine lv_ladd hx hb (show decode cX10_spelt 58 = .ok (.ladd, 1) by decide +kernel) ?_
    refine lv_ldc2 (v := 96) hx hb hown (hts _ (jm_in_g _ je_t.2.2.2.1 rfl)) (show decode cX10_spelt 59 = .ok (.ldc2_w 171, 3) by decide +kernel) ?_
    refine lv_lsub hx hb (show decode cX10_spelt 62 = .ok (.lsub, 1) by decide +kernel) ?_
    refine lv_goto (tgt := 68) hx hb (show decode cX10_spelt 63 = .ok (.goto 5, 3) by decide +kernel) (by decide) ?_
    have e1 : (27 : Int64) * Int64.ofInt v + Int64.ofInt x - 96 = Int64.ofInt (27 * v + x - 96) := by
      rw [Int64.ofInt_sub, Int64.ofInt_add, Int64.ofInt_mul]
      rfl
    rw [e1]
    refine rest _ JL ?_ hl
    unfold jm_spl
    rw [if_pos]
    rcases Int.lt_or_le 0 x with y | y
    · exact y
    · exact absurd ((jn_le hjx jn_in0).mpr y) z
end JE
theorem je_spelt (l : Launch) (sz : Nat) (x1 x2 x3 x4 x5 : Int) (b1 : 0 ≤ x1 ∧ x1 ≤ 255) (b2 : 0 ≤ x2 ∧ x2 ≤ 255) (b3 : 0 ≤ x3 ∧ x3 ≤ 255) (b4 : 0 ≤ x4 ∧ x4 ≤ 255) (b5 : 0 ≤ x5 ∧ x5 ≤ 255) : Met l yX10_spelt (jd_ws yX10_spelt cX10_spelt 9 (some .long)) ({ frames := 0, cells := 1, slots := 5, locals := 0 }) (va_Pc [.int (Int32.ofInt x1), .int (Int32.ofInt x2), .int (Int32.ofInt x3), .int (Int32.ofInt x4), .int (Int32.ofInt x5)] (fun U => U.heap.size = sz)) (fun _ s0 oc t => oc = .returned (some (.long (Int64.ofInt (jm_spelt x1 x2 x3 x4 x5)))) ∧ va_F (fun q => sz ≤ q) s0 t) 1 5 (fun q => sz ≤ q) := by
  refine Met.ofW (cc := cX10_spelt) (maxL := 9) (ret := some .long) (by decide) rfl ?_
  intro p e s mid args below meth c s₁ B hml hv
  obtain ⟨rfl, hsz⟩ := hv
  subst hsz
  have hl := lv_entry ([.int (Int32.ofInt x1), .int (Int32.ofInt x2), .int (Int32.ofInt x3), .int (Int32.ofInt x4), .int (Int32.ofInt x5)] : List Value) (n := 9) (Nat.le_of_ble_eq_true rfl)
  rw [lg_entry_eq]
  have hx := B.exec
  have hb := B.bytes
  have hr := B.returns
  have hlocks := B.notSynchronized
  have hown : s.vm.findClass RX10 = some mid.cls := findClass_of_methodNamed B.named
  have hts := fun w h => atoms_spec (ws := jd_ws yX10_spelt cX10_spelt 9 (some .long)) B.pre w (List.mem_cons_of_mem _ h)
  generalize (lg_sl ([.int (Int32.ofInt x1), .int (Int32.ofInt x2), .int (Int32.ofInt x3), .int (Int32.ofInt x4), .int (Int32.ofInt x5)] : List Value) ++ List.replicate (9 - (lg_sl ([.int (Int32.ofInt x1), .int (Int32.ofInt x2), .int (Int32.ofInt x3), .int (Int32.ofInt x4), .int (Int32.ofInt x5)] : List Value)).length) Slot.unset).toArray = JL at hl ⊢
  have hl : lv_has JL 9 [(0, .int (Int32.ofInt x1)), (1, .int (Int32.ofInt x2)), (2, .int (Int32.ofInt x3)), (3, .int (Int32.ofInt x4)), (4, .int (Int32.ofInt x5))] := hl
  refine lv_lconst (v := 0) hx hb (show decode cX10_spelt 0 = .ok (.lconst 0, 1) by decide +kernel) rfl ?_
  refine lv_lstore (lv' := [(5, .long 0), (0, .int (Int32.ofInt x1)), (1, .int (Int32.ofInt x2)), (2, .int (Int32.ofInt x3)), (3, .int (Int32.ofInt x4)), (4, .int (Int32.ofInt x5))]) hx hb (show decode cX10_spelt 1 = .ok (.lstore 5, 2) by decide +kernel) hl (by decide) rfl (fun L1 h1 => ?_)
  refine lv_iconst (v := 5) hx hb (show decode cX10_spelt 3 = .ok (.iconst 5, 1) by decide +kernel) (by decide) ?_
  refine va_newa (D := ((fun _ => mid.cls, fun _ _ => 0) : va_G)) (cl := []) (tys := []) (ws := []) (A := fun q => s.heap.size ≤ q) (a0 := (5, .inl (fun _ => 0))) (N' := 5) hx hb (hts _ (jm_in_g _ je_t.2.1 rfl)) (ty := .int) rfl ⟨(fun _ _ h => nomatch h), (fun _ _ h => nomatch h)⟩ (fun _ _ h => nomatch h) ⟨(fun _ _ _ _ h => nomatch h), (fun _ _ h => nomatch h)⟩ va_S.rf (fun _ h => h) (fun _ => rfl) (by decide) (by decide) (by decide) (Nat.le_refl _) (Nat.le_refl _) (show decode cX10_spelt 4 = .ok (.newarray .int, 2) by decide +kernel) (fun q cA H1 hK hP hD hS => ?_)
  refine lv_dup hx hb (show decode cX10_spelt 6 = .ok (.dup, 1) by decide +kernel) rfl ?_
  refine lv_iconst (v := 0) hx hb (show decode cX10_spelt 7 = .ok (.iconst 0, 1) by decide +kernel) (by decide) ?_
  refine lv_iload_n hx hb (show decode cX10_spelt 8 = .ok (.iload_n 0, 1) by decide +kernel) rfl (lv_at h1 1 rfl) ?_
  refine va_iast hx hb hK hP hD hS 0 0 rfl rfl (vp_in_nI (n := 0) (N := 5) (by decide) (by decide)) (show decode cX10_spelt 9 = .ok (.iastore, 1) by decide +kernel) (fun H2 locs2 hP hD hS => ?_)
  refine lv_dup hx hb (show decode cX10_spelt 10 = .ok (.dup, 1) by decide +kernel) rfl ?_
  refine lv_iconst (v := 1) hx hb (show decode cX10_spelt 11 = .ok (.iconst 1, 1) by decide +kernel) (by decide) ?_
  refine lv_iload_n hx hb (show decode cX10_spelt 12 = .ok (.iload_n 1, 1) by decide +kernel) rfl (lv_at h1 2 rfl) ?_
  refine va_iast hx hb hK hP hD hS 0 0 rfl rfl (vp_in_nI (n := 1) (N := 5) (by decide) (by decide)) (show decode cX10_spelt 13 = .ok (.iastore, 1) by decide +kernel) (fun H3 locs3 hP hD hS => ?_)
  refine lv_dup hx hb (show decode cX10_spelt 14 = .ok (.dup, 1) by decide +kernel) rfl ?_
  refine lv_iconst (v := 2) hx hb (show decode cX10_spelt 15 = .ok (.iconst 2, 1) by decide +kernel) (by decide) ?_
  refine lv_iload_n hx hb (show decode cX10_spelt 16 = .ok (.iload_n 2, 1) by decide +kernel) rfl (lv_at h1 3 rfl) ?_
  refine va_iast hx hb hK hP hD hS 0 0 rfl rfl (vp_in_nI (n := 2) (N := 5) (by decide) (by decide)) (show decode cX10_spelt 17 = .ok (.iastore, 1) by decide +kernel) (fun H4 locs4 hP hD hS => ?_)
  refine lv_dup hx hb (show decode cX10_spelt 18 = .ok (.dup, 1) by decide +kernel) rfl ?_
  refine lv_iconst (v := 3) hx hb (show decode cX10_spelt 19 = .ok (.iconst 3, 1) by decide +kernel) (by decide) ?_
  refine lv_iload_n hx hb (show decode cX10_spelt 20 = .ok (.iload_n 3, 1) by decide +kernel) rfl (lv_at h1 4 rfl) ?_
  refine va_iast hx hb hK hP hD hS 0 0 rfl rfl (vp_in_nI (n := 3) (N := 5) (by decide) (by decide)) (show decode cX10_spelt 21 = .ok (.iastore, 1) by decide +kernel) (fun H5 locs5 hP hD hS => ?_)
  refine lv_dup hx hb (show decode cX10_spelt 22 = .ok (.dup, 1) by decide +kernel) rfl ?_
  refine lv_iconst (v := 4) hx hb (show decode cX10_spelt 23 = .ok (.iconst 4, 1) by decide +kernel) (by decide) ?_
  refine lv_iload hx hb (show decode cX10_spelt 24 = .ok (.iload 4, 2) by decide +kernel) (lv_at h1 5 rfl) ?_
  refine va_iast hx hb hK hP hD hS 0 0 rfl rfl (vp_in_nI (n := 4) (N := 5) (by decide) (by decide)) (show decode cX10_spelt 26 = .ok (.iastore, 1) by decide +kernel) (fun H6 locs6 hP hD hS => ?_)
  refine lv_astore (lv' := [(7, .ref q), (5, .long 0), (0, .int (Int32.ofInt x1)), (1, .int (Int32.ofInt x2)), (2, .int (Int32.ofInt x3)), (3, .int (Int32.ofInt x4)), (4, .int (Int32.ofInt x5))]) hx hb (show decode cX10_spelt 27 = .ok (.astore 7, 2) by decide +kernel) h1 (by decide) rfl (fun L2 h2 => ?_)
  refine lv_iconst (v := 0) hx hb (show decode cX10_spelt 29 = .ok (.iconst 0, 1) by decide +kernel) (by decide) ?_
  refine lv_istore (lv' := [(8, .int 0), (7, .ref q), (5, .long 0), (0, .int (Int32.ofInt x1)), (1, .int (Int32.ofInt x2)), (2, .int (Int32.ofInt x3)), (3, .int (Int32.ofInt x4)), (4, .int (Int32.ofInt x5))]) hx hb (show decode cX10_spelt 30 = .ok (.istore 8, 2) by decide +kernel) h2 (by decide) rfl (fun L3 h3 => ?_)
  have h3' : lv_has L3 9 [(8, .int (nI 0)), (7, .ref q), (5, .long (Int64.ofInt 0))] := lv_sub h3 [0, 1, 2] rfl
  refine je_iter hx hb hown hts hK rfl hP rfl 0 (by decide) 0 x1 rfl b1 h3' (fun L4 h4 => ?_)
  refine je_iter hx hb hown hts hK rfl hP rfl 1 (by decide) _ x2 rfl b2 h4 (fun L5 h5 => ?_)
  refine je_iter hx hb hown hts hK rfl hP rfl 2 (by decide) _ x3 rfl b3 h5 (fun L6 h6 => ?_)
  refine je_iter hx hb hown hts hK rfl hP rfl 3 (by decide) _ x4 rfl b4 h6 (fun L7 h7 => ?_)
  refine je_iter hx hb hown hts hK rfl hP rfl 4 (by decide) _ x5 rfl b5 h7 (fun L8 h8 => ?_)
  refine lv_iload hx hb (show decode cX10_spelt 32 = .ok (.iload 8, 2) by decide +kernel) (lv_at h8 0 rfl) ?_
  refine lv_iconst (v := 5) hx hb (show decode cX10_spelt 34 = .ok (.iconst 5, 1) by decide +kernel) (by decide) ?_
  refine lv_icmp_ge (tgt := 76) hx hb (show decode cX10_spelt 35 = .ok (.if_icmp .ge 41, 3) by decide +kernel) (by decide) (fun _ => ?_) (fun z => absurd je_n.2.1 z)
  refine lv_lload hx hb (show decode cX10_spelt 76 = .ok (.lload 5, 2) by decide +kernel) (lv_at h8 2 rfl) ?_
  exact W.lret hx hb hr (fun t ht _ => ⟨rfl, hS.F ht⟩) hS.2.2 (show decode cX10_spelt 78 = .ok (.lreturn, 1) by decide +kernel)
section JEC
variable {p : Program} {l : Launch} {e : Env} {R : Room} {s : State} {mid : MethodId} {args : Array Value} {below : List Frame} {meth : Method} {c : Code}
variable {dC : Nat → ClassId} {dI : Nat → Nat → Nat} {cA : Nat → ClassId} {ad adV : Nat → Nat} {ids : List Nat} {A : Nat → Prop} {m : Nat} {FQ : State → Prop} {gc gs : Int} {scr : Int → Int}
variable {k : Nat} {ls : jm_Ls} {M : jm_Mem} {z : Int}
theorem jm_gh_a (a b : Int) : jm_gh M a b 999 0 = M 999 0 + a := (jm_gh_0 M a b).1
theorem jm_gh_b (a b : Int) : jm_gh M a b 999 1 = M 999 1 + b := (jm_gh_0 M a b).2.1
theorem jm_gh_o (a b : Int) {d : Nat} (h : d ≠ 999) : jm_gh M a b d = M d := (jm_gh_0 M a b).2.2 d h
theorem jm_okM_gh {a b : Int} (h : jm_okM M) : jm_okM (jm_gh M a b) := by
  intro d j hd
  rw [jm_gh_o a b hd]
  exact h d j hd
theorem jm_spl_in {v a : Int} {B : Int} (hB : 0 ≤ B) (hv : -B ≤ v ∧ v ≤ B) (ha : 0 ≤ a ∧ a ≤ 255) : -(27 * B + 255) ≤ jm_spl v a ∧ jm_spl v a ≤ 27 * B + 255 := by
  unfold jm_spl
  split <;> omega
theorem jm_spelt_in {x1 x2 x3 x4 x5 : Int} (b1 : 0 ≤ x1 ∧ x1 ≤ 255) (b2 : 0 ≤ x2 ∧ x2 ≤ 255) (b3 : 0 ≤ x3 ∧ x3 ≤ 255) (b4 : 0 ≤ x4 ∧ x4 ≤ 255) (b5 : 0 ≤ x5 ∧ x5 ≤ 255) : jm_in (jm_spelt x1 x2 x3 x4 x5) := by
  unfold jm_spelt jm_in
  have q1 := jm_spl_in (v := 0) (B := 0) (by decide) ⟨by decide, by decide⟩ b1
  have q2 := jm_spl_in (B := 255) (by decide) ⟨by omega, by omega⟩ b2 (v := jm_spl 0 x1)
  have q3 := jm_spl_in (B := 7140) (by decide) ⟨by omega, by omega⟩ b3 (v := jm_spl (jm_spl 0 x1) x2)
  have q4 := jm_spl_in (B := 193035) (by decide) ⟨by omega, by omega⟩ b4 (v := jm_spl (jm_spl (jm_spl 0 x1) x2) x3)
  have q5 := jm_spl_in (B := 5212200) (by decide) ⟨by omega, by omega⟩ b5 (v := jm_spl (jm_spl (jm_spl (jm_spl 0 x1) x2) x3) x4)
  omega
theorem js_spelt {idx : Nat} {x1 x2 x3 x4 x5 : Int} {r : List jm_V} (hF : jm_F p R s mid args c dC dI cA ad adV ids A m) (hrc : jm_rc m k = some (.invokestatic idx, 903, z)) (hft : jm_ft r 8 = true) (b1 : 0 ≤ x1 ∧ x1 ≤ 255) (b2 : 0 ≤ x2 ∧ x2 ≤ 255) (b3 : 0 ≤ x3 ∧ x3 ≤ 255) (b4 : 0 ≤ x4 ∧ x4 ≤ 255) (b5 : 0 ≤ x5 ∧ x5 ≤ 255) (hcc : (jm_gh M 1 5 999 0 - gc).toNat ≤ R.cells ∧ (jm_gh M 1 5 999 1 - gs).toNat ≤ R.slots) (hG : jm_G p l e R s mid args below meth c dC dI cA ad ids A m FQ gc gs scr (k + 1, ls, .inr (.inr (jm_spelt x1 x2 x3 x4 x5)) :: r, jm_gh M 1 5)) : jm_G p l e R s mid args below meth c dC dI cA ad ids A m FQ gc gs scr (k, ls, .inl x5 :: .inl x4 :: .inl x3 :: .inl x2 :: .inl x1 :: r, M) := by
  obtain ⟨hd, hp, hlink, hfr, hlo⟩ := jm_ck_bs hF hrc (by decide)
  intro JL H locs g1 g2 g3 g4 g5 g6 g7 g8
  rw [jm_gh_a, jm_gh_b] at hcc
  dsimp only at g6 g7
  have e0 : (M 999 0 - gc).toNat + 1 = (M 999 0 + 1 - gc).toNat := by omega
  have e1 : (M 999 1 - gs).toNat + 5 = (M 999 1 + 5 - gs).toNat := by omega
  refine js_after (Qa := (fun s0 oc t => oc = .returned (some (.long (Int64.ofInt (jm_spelt x1 x2 x3 x4 x5)))) ∧ va_F (fun q => H.size ≤ q) s0 t)) (free := fun q => H.size ≤ q) (A1 := fun q => H.size ≤ q) (mc := 1) (ms := 5) (rest := r.map (jm_val ad)) (va_runS (As := [.int (Int32.ofInt x1), .int (Int32.ofInt x2), .int (Int32.ofInt x3), .int (Int32.ofInt x4), .int (Int32.ofInt x5)]) (rest := r.map (jm_val ad)) ⟨hF.1, hF.2.1, hF.2.2.1, hF.2.2.2.1, hF.2.2.2.2.1⟩ (je_spelt l H.size x1 x2 x3 x4 x5 b1 b2 b3 b4 b5) (va_cwS 5 hF.2.2.2.2.1 (jd_goodS (y := yX10_spelt) hlink (jm_in_g _ je_t.1 rfl) (jm_in_g _ je_t.2.2.2.2 rfl) (jm_in_g _ je_c rfl)) rfl rfl rfl (by decide +kernel) ⟨Nat.le_trans (Nat.le_of_ble_eq_true rfl) hfr, Nat.le_trans (Nat.le_of_ble_eq_true rfl) hlo⟩) ⟨fun _ _ _ _ h => h, fun U hU hW => ⟨rfl, by show U.heap.size = H.size; rw [hU]⟩⟩ rfl rfl g1.1 rfl (lv_room (jm_cat_le r hft)) hd (by rw [e0, e1]; exact hcc)) g5 (fun q hq1 hq2 => absurd hq2 (Nat.not_le.mpr hq1)) (fun q hq => hF.2.2.2.2.2.2.2.2.2 q (Nat.le_trans g5.1 hq)) (r1 := some (.long (Int64.ofInt (jm_spelt x1 x2 x3 x4 x5)))) (B := fun H1 => ∀ q : Nat, q < H.size → H1[q]? = H[q]?) (fun s0 v t hs0 hq => ?_) (fun H1 locs1 hB hS1 => ?_)
  · obtain ⟨q1, q2, q3⟩ := hq
    rw [hs0] at q2 q3
    cases q1
    exact ⟨rfl, fun q hq => q3 q hq (Nat.not_le.mpr hq), q2, q3⟩
  · have hwd : jm_wd cA ad ids (jm_gh M 1 5) = jm_wd cA ad ids M := by
      unfold jm_wd
      refine List.map_congr_left (fun d hd => ?_)
      have hd9 := hF.2.2.2.2.2.2.2.2.1.2.1 d hd
      have : jm_ce cA ad (jm_gh M 1 5) d = jm_ce cA ad M d := jm_ce_congr (jm_gh_o 1 5 (by omega))
      rw [this]
    have := hG JL H1 locs1 g1 (jk_cons (v := .inr (.inr (jm_spelt x1 x2 x3 x4 x5))) (jm_spelt_in b1 b2 b3 b4 b5) (jk_tl (jk_tl (jk_tl (jk_tl (jk_tl g2)))))) (jm_okM_gh g3) (by dsimp only; rw [hwd]; exact g4.kept (fun k q hk => hB _ ((g4 k q hk).lt))) hS1 (by dsimp only; rw [jm_gh_a]; omega) (by dsimp only; rw [jm_gh_b]; omega) (fun q => by dsimp only; rw [jm_gh_o 1 5 (by decide)]; exact g8 q)
    dsimp only at this
    rw [jm_gh_a, jm_gh_b, ← e0, ← e1, hp] at this
    exact this
end JEC
