theorem jm_decl_ok : ∀ c, c < 11 → ∀ k, k < jm_nf c → (jm_tt c k).1 = jm_cn c := by decide +kernel
theorem jm_uws {ci : Nat} (h : ci < 11) : ∀ w ∈ u_ws (jm_cn ci) (jm_tt ci) (jm_nf ci), w ∈ jm_g := by
  intro w hw
  unfold u_ws at hw
  obtain ⟨k, hk, rfl⟩ := List.mem_map.mp hw
  refine jm_in_g _ (jm_fp_ok ci h k (List.mem_range.mp hk)) ?_
  unfold u_lay
  split <;> rfl
/-- an object's shape -/
theorem jm_sh_obj {c0 ci : Nat} (hb : Nat.beq (jm_sh c0).1 (10 + ci) = true) (hc : c0 < 95) : ci < 11 ∧ (jm_sh c0).2.2.length = jm_nf ci ∧ (∀ j z, jm_nth (jm_sh c0).2.2 j = some z → (z = 0 → jm_ty ci j = .int ∧ (jm_tt ci j).2.2.2 = false) ∧ (z = 1 → jm_ty ci j = .long ∧ (jm_tt ci j).2.2.2 = false) ∧ (z = 2 → jm_ty ci j = .boolean ∧ (jm_tt ci j).2.2.2 = false)) ∧ ∀ (cA : Nat → ClassId) (ad : Nat → Nat) (M : jm_Mem), jm_ce cA ad M c0 = .inr (ci, jm_fv ad M c0 0 (jm_sh c0).2.2) := by
  have h1 := jm_sh_ok c0 hc
  have h2 := Nat.eq_of_beq_eq_true hb
  have hgd : ∀ (l : List Nat) (j z : Nat), jm_nth l j = some z → l.getD j 0 = z := by
    intro l
    induction l with
    | nil => intro j z h; cases h
    | cons a l ih =>
      intro j z h
      cases j with
      | zero => exact Option.some.inj h
      | succ j => exact ih j z h
  unfold jm_shk at h1
  have hce : ∀ (cA : Nat → ClassId) (ad : Nat → Nat) (M : jm_Mem), jm_ce cA ad M c0 = .inr (ci, jm_fv ad M c0 0 (jm_sh c0).2.2) := by
    intro cA ad M
    unfold jm_ce
    generalize jm_sh c0 = q at h2 ⊢
    obtain ⟨q1, q2, q3⟩ := q
    dsimp only at h2
    subst h2
    rw [Nat.add_comm 10 ci]
    rfl
  generalize jm_sh c0 = q at h1 h2 hce ⊢
  obtain ⟨q1, q2, q3⟩ := q
  dsimp only at h1 h2 hce ⊢
  subst h2
  have hble : Nat.ble 10 (10 + ci) = true := Nat.ble_eq_true_of_le (by omega)
  rw [hble] at h1
  dsimp only at h1
  rw [Bool.and_eq_true, Bool.and_eq_true, Bool.and_eq_true] at h1
  obtain ⟨g1, g2, g3, g4⟩ := h1
  have hci : 10 + ci - 10 = ci := by omega
  rw [hci] at g2 g4
  have g1 : 10 + ci < 21 := Nat.le_of_ble_eq_true g1
  have g2 := Nat.eq_of_beq_eq_true g2
  have g3 := Nat.eq_of_beq_eq_true g3
  refine ⟨by omega, by omega, fun j z hz => ?_, hce⟩
  have hj : j < q3.length := jm_nth_lt q3 j z hz
  have g5 := List.all_eq_true.mp g4 j (List.mem_range.mpr (by omega))
  rw [hgd q3 j z hz] at g5
  refine ⟨fun h => ?_, fun h => ?_, fun h => ?_⟩
  · subst h; exact of_decide_eq_true g5
  · subst h; exact of_decide_eq_true g5
  · subst h; exact of_decide_eq_true g5
section JS3
variable {p : Program} {l : Launch} {e : Env} {R : Room} {s : State} {mid : MethodId} {args : Array Value} {below : List Frame} {meth : Method} {c : Code}
variable {dC : Nat → ClassId} {dI : Nat → Nat → Nat} {cA : Nat → ClassId} {ad adV : Nat → Nat} {ids : List Nat} {A : Nat → Prop} {m : Nat} {FQ : State → Prop} {gc gs : Int} {scr : Int → Int}
variable {wc : Nat → List jm_V → jm_Mem → jm_Q → Prop} {w : jm_Cfg → Prop} {Q : jm_Q} {k : Nat} {ls : jm_Ls} {st : List jm_V} {M : jm_Mem} {a : Nat} {z : Int}
/-- a branch: of what the machine asks, and what is asked of the numbers -/
theorem js_brA {x : Int} {r : List jm_V} {ta tb : Nat} {P : Prop} (hj : jm_G p l e R s mid args below meth c dC dI cA ad ids A m FQ gc gs scr (ta, ls, r, M) ∨ ¬ P) (hk : jm_G p l e R s mid args below meth c dC dI cA ad ids A m FQ gc gs scr (tb, ls, r, M) ∨ P)
    (row : jm_in x → ∀ (JL : Array Slot) (H : Heap) (locs : List Loc) (cells slots : Nat) (rest : List Value), (P → W p l e R s mid args below meth c H locs cells slots FQ (F0 mid (jm_bp m ta) JL rest)) → (¬ P → W p l e R s mid args below meth c H locs cells slots FQ (F0 mid (jm_bp m tb) JL rest)) → W p l e R s mid args below meth c H locs cells slots FQ (F0 mid (jm_bp m k) JL (.int (Int32.ofInt x) :: rest))) : jm_G p l e R s mid args below meth c dC dI cA ad ids A m FQ gc gs scr (k, ls, .inl x :: r, M) := by
  intro JL H locs g1 g2 g3 g4 g5 g6 g7 g8
  refine row (jk_hd g2) JL H locs _ _ _ (fun hP => ?_) (fun hP => ?_)
  · exact hj.elim (fun h => h JL H locs g1 (jk_tl g2) g3 g4 g5 g6 g7 g8) (fun h => absurd hP h)
  · exact hk.elim (fun h => h JL H locs g1 (jk_tl g2) g3 g4 g5 g6 g7 g8) (fun h => absurd h hP)
theorem js_brB {x y : Int} {r : List jm_V} {ta tb : Nat} {P : Prop} (hj : jm_G p l e R s mid args below meth c dC dI cA ad ids A m FQ gc gs scr (ta, ls, r, M) ∨ ¬ P) (hk : jm_G p l e R s mid args below meth c dC dI cA ad ids A m FQ gc gs scr (tb, ls, r, M) ∨ P)
    (row : jm_in x → jm_in y → ∀ (JL : Array Slot) (H : Heap) (locs : List Loc) (cells slots : Nat) (rest : List Value), (P → W p l e R s mid args below meth c H locs cells slots FQ (F0 mid (jm_bp m ta) JL rest)) → (¬ P → W p l e R s mid args below meth c H locs cells slots FQ (F0 mid (jm_bp m tb) JL rest)) → W p l e R s mid args below meth c H locs cells slots FQ (F0 mid (jm_bp m k) JL (.int (Int32.ofInt y) :: .int (Int32.ofInt x) :: rest))) : jm_G p l e R s mid args below meth c dC dI cA ad ids A m FQ gc gs scr (k, ls, .inl y :: .inl x :: r, M) := by
  intro JL H locs g1 g2 g3 g4 g5 g6 g7 g8
  refine row (jk_hd (jk_tl g2)) (jk_hd g2) JL H locs _ _ _ (fun hP => ?_) (fun hP => ?_)
  · exact hj.elim (fun h => h JL H locs g1 (jk_tl (jk_tl g2)) g3 g4 g5 g6 g7 g8) (fun h => absurd hP h)
  · exact hk.elim (fun h => h JL H locs g1 (jk_tl (jk_tl g2)) g3 g4 g5 g6 g7 g8) (fun h => absurd h hP)
theorem js_two {P : Prop} {ca cb : jm_Cfg} (h : (P → w ca) ∧ (¬ P → w cb)) (hw : ∀ c', w c' → jm_G p l e R s mid args below meth c dC dI cA ad ids A m FQ gc gs scr c') : (jm_G p l e R s mid args below meth c dC dI cA ad ids A m FQ gc gs scr ca ∨ ¬ P) ∧ (jm_G p l e R s mid args below meth c dC dI cA ad ids A m FQ gc gs scr cb ∨ P) := by
  by_cases hP : P
  · exact ⟨Or.inl (hw _ (h.1 hP)), Or.inr hP⟩
  · exact ⟨Or.inr hP, Or.inl (hw _ (h.2 hP))⟩
theorem js_if {cc : ClassFile.Cond} {off : Int} (hF : jm_F p R s mid args c dC dI cA ad adV ids A m) (hrc : jm_rc m k = some (.ifCond cc off, a, z)) (h : jm_do wc w Q k ls M (jm_ef (.ifCond cc off, a, z) k ls st M)) (hw : ∀ c', w c' → jm_G p l e R s mid args below meth c dC dI cA ad ids A m FQ gc gs scr c') : jm_G p l e R s mid args below meth c dC dI cA ad ids A m FQ gc gs scr (k, ls, st, M) := by
  obtain ⟨hd, h1, -⟩ := jm_dec hrc (by simp)
  have h1 : (decide ((jm_bp m a : Int) = (jm_bp m k : Int) + off) && Nat.beq (jm_bp m (k + 1)) (jm_bp m k + 3)) = true := h1
  rw [Bool.and_eq_true] at h1
  have ht : (jm_bp m k : Int) + off = (jm_bp m a : Int) := (of_decide_eq_true h1.1).symm
  have hp := Nat.eq_of_beq_eq_true h1.2
  obtain ⟨x, r, rfl, h⟩ := ju1 h
  cases cc with
  | eq =>
    obtain ⟨hj, hk⟩ := js_two h hw
    refine js_brA hj hk (fun hx JL H locs cells slots rest ka kb => lv_if_eq hF.1 hF.2.1 hd ht (fun q => ka ((jn_eq hx jn_in0).mp q)) (fun q => ?_))
    have := kb (fun z => q ((jn_eq hx jn_in0).mpr z))
    rw [hp] at this
    exact this
  | ne =>
    obtain ⟨hj, hk⟩ := js_two h hw
    refine js_brA hj hk (fun hx JL H locs cells slots rest ka kb => lv_if_ne hF.1 hF.2.1 hd ht (fun q => kb (fun z => q ((jn_eq hx jn_in0).mpr z))) (fun q => ?_))
    have := ka ((jn_eq hx jn_in0).mp q)
    rw [hp] at this
    exact this
  | lt =>
    obtain ⟨hj, hk⟩ := js_two h hw
    refine js_brA hj hk (fun hx JL H locs cells slots rest ka kb => lv_if_lt hF.1 hF.2.1 hd ht (fun q => ka ((jn_lt hx jn_in0).mp q)) (fun q => ?_))
    have := kb (fun z => q ((jn_lt hx jn_in0).mpr z))
    rw [hp] at this
    exact this
  | ge =>
    obtain ⟨hj, hk⟩ := js_two h hw
    refine js_brA hj hk (fun hx JL H locs cells slots rest ka kb => lv_if_ge hF.1 hF.2.1 hd ht (fun q => kb (fun z => absurd ((jn_le jn_in0 hx).mp q) (by omega))) (fun q => ?_))
    have := ka (Int.not_le.mp (fun z => q ((jn_le jn_in0 hx).mpr z)))
    rw [hp] at this
    exact this
  | gt =>
    obtain ⟨hj, hk⟩ := js_two h hw
    refine js_brA hj hk (fun hx JL H locs cells slots rest ka kb => lv_if_gt hF.1 hF.2.1 hd ht (fun q => ka ((jn_lt jn_in0 hx).mp q)) (fun q => ?_))
    have := kb (fun z => q ((jn_lt jn_in0 hx).mpr z))
    rw [hp] at this
    exact this
  | le =>
    obtain ⟨hj, hk⟩ := js_two h hw
    refine js_brA hj hk (fun hx JL H locs cells slots rest ka kb => lv_if_le hF.1 hF.2.1 hd ht (fun q => kb (fun z => absurd ((jn_le hx jn_in0).mp q) (by omega))) (fun q => ?_))
    have := ka (Int.not_le.mp (fun z => q ((jn_le hx jn_in0).mpr z)))
    rw [hp] at this
    exact this
theorem js_icmp {cc : ClassFile.Cond} {off : Int} (hF : jm_F p R s mid args c dC dI cA ad adV ids A m) (hrc : jm_rc m k = some (.if_icmp cc off, a, z)) (h : jm_do wc w Q k ls M (jm_ef (.if_icmp cc off, a, z) k ls st M)) (hw : ∀ c', w c' → jm_G p l e R s mid args below meth c dC dI cA ad ids A m FQ gc gs scr c') : jm_G p l e R s mid args below meth c dC dI cA ad ids A m FQ gc gs scr (k, ls, st, M) := by
  obtain ⟨hd, h1, -⟩ := jm_dec hrc (by simp)
  have h1 : (decide ((jm_bp m a : Int) = (jm_bp m k : Int) + off) && Nat.beq (jm_bp m (k + 1)) (jm_bp m k + 3)) = true := h1
  rw [Bool.and_eq_true] at h1
  have ht : (jm_bp m k : Int) + off = (jm_bp m a : Int) := (of_decide_eq_true h1.1).symm
  have hp := Nat.eq_of_beq_eq_true h1.2
  obtain ⟨x, y, r, rfl, h⟩ := jb2 h
  cases cc with
  | eq =>
    obtain ⟨hj, hk⟩ := js_two h hw
    refine js_brB hj hk (fun hx hy JL H locs cells slots rest ka kb => lv_icmp_eq hF.1 hF.2.1 hd ht (fun q => ka ((jn_eq hx hy).mp q)) (fun q => ?_))
    have := kb (fun z => q ((jn_eq hx hy).mpr z))
    rw [hp] at this
    exact this
  | ne =>
    obtain ⟨hj, hk⟩ := js_two h hw
    refine js_brB hj hk (fun hx hy JL H locs cells slots rest ka kb => lv_icmp_ne hF.1 hF.2.1 hd ht (fun q => kb (fun z => q ((jn_eq hx hy).mpr z))) (fun q => ?_))
    have := ka ((jn_eq hx hy).mp q)
    rw [hp] at this
    exact this
  | lt =>
    obtain ⟨hj, hk⟩ := js_two h hw
    refine js_brB hj hk (fun hx hy JL H locs cells slots rest ka kb => lv_icmp_lt hF.1 hF.2.1 hd ht (fun q => ka ((jn_lt hx hy).mp q)) (fun q => ?_))
    have := kb (fun z => q ((jn_lt hx hy).mpr z))
    rw [hp] at this
    exact this
  | ge =>
    obtain ⟨hj, hk⟩ := js_two h hw
    refine js_brB hj hk (fun hx hy JL H locs cells slots rest ka kb => lv_icmp_ge hF.1 hF.2.1 hd ht (fun q => kb (fun z => absurd ((jn_le hy hx).mp q) (by omega))) (fun q => ?_))
    have := ka (Int.not_le.mp (fun z => q ((jn_le hy hx).mpr z)))
    rw [hp] at this
    exact this
  | gt =>
    obtain ⟨hj, hk⟩ := js_two h hw
    refine js_brB hj hk (fun hx hy JL H locs cells slots rest ka kb => lv_icmp_gt hF.1 hF.2.1 hd ht (fun q => ka ((jn_lt hy hx).mp q)) (fun q => ?_))
    have := kb (fun z => q ((jn_lt hy hx).mpr z))
    rw [hp] at this
    exact this
  | le =>
    obtain ⟨hj, hk⟩ := js_two h hw
    refine js_brB hj hk (fun hx hy JL H locs cells slots rest ka kb => lv_icmp_le hF.1 hF.2.1 hd ht (fun q => kb (fun z => absurd ((jn_le hx hy).mp q) (by omega))) (fun q => ?_))
    have := ka (Int.not_le.mp (fun z => q ((jn_le hx hy).mpr z)))
    rw [hp] at this
    exact this
theorem js_goto {off : Int} (hF : jm_F p R s mid args c dC dI cA ad adV ids A m) (hrc : jm_rc m k = some (.goto off, a, z)) (h : jm_do wc w Q k ls M (jm_ef (.goto off, a, z) k ls st M)) (hw : ∀ c', w c' → jm_G p l e R s mid args below meth c dC dI cA ad ids A m FQ gc gs scr c') : jm_G p l e R s mid args below meth c dC dI cA ad ids A m FQ gc gs scr (k, ls, st, M) := by
  obtain ⟨hd, h1, -⟩ := jm_dec hrc (by simp)
  have ht : (jm_bp m k : Int) + off = (jm_bp m a : Int) := (of_decide_eq_true (show decide ((jm_bp m a : Int) = (jm_bp m k : Int) + off) = true from h1)).symm
  refine js_go (fun JL _ h _ => h) (fun JL H locs cells slots _ _ _ _ _ _ hW => lv_goto hF.1 hF.2.1 hd ht hW) (hw (a, ls, st, M) h)
theorem js_ineg (hF : jm_F p R s mid args c dC dI cA ad adV ids A m) (hrc : jm_rc m k = some (.ineg, a, z)) (h : jm_do wc w Q k ls M (jm_ef (.ineg, a, z) k ls st M)) (hw : ∀ c', w c' → jm_G p l e R s mid args below meth c dC dI cA ad ids A m FQ gc gs scr c') : jm_G p l e R s mid args below meth c dC dI cA ad ids A m FQ gc gs scr (k, ls, st, M) := by
  obtain ⟨hd, hp, -⟩ := jm_nx hrc (by simp) rfl
  obtain ⟨x, r, rfl, h⟩ := ju1 h
  refine js_go (fun JL _ g _ => jk_cons (v := .inl (-x)) h.1 (jk_tl g)) (fun JL H locs cells slots _ _ _ _ _ _ hW => ?_) (hw _ h.2)
  rw [hp] at hW
  refine lv_ineg hF.1 hF.2.1 hd ?_
  rw [← Int32.ofInt_neg]
  exact hW
theorem js_i2b (hF : jm_F p R s mid args c dC dI cA ad adV ids A m) (hrc : jm_rc m k = some (.i2b, a, z)) (h : jm_do wc w Q k ls M (jm_ef (.i2b, a, z) k ls st M)) (hw : ∀ c', w c' → jm_G p l e R s mid args below meth c dC dI cA ad ids A m FQ gc gs scr c') : jm_G p l e R s mid args below meth c dC dI cA ad ids A m FQ gc gs scr (k, ls, st, M) := by
  obtain ⟨hd, hp, -⟩ := jm_nx hrc (by simp) rfl
  obtain ⟨x, r, rfl, h⟩ := ju1 h
  have hb := jn_byte x
  refine js_go (fun JL _ g _ => jk_cons (v := .inl (jm_byte x)) ⟨by omega, by omega⟩ (jk_tl g)) (fun JL H locs cells slots _ _ _ _ _ _ hW => ?_) (hw _ h)
  rw [hp] at hW
  exact lv_i2b hF.1 hF.2.1 hd hb.1 hW
theorem js_i2l (hF : jm_F p R s mid args c dC dI cA ad adV ids A m) (hrc : jm_rc m k = some (.i2l, a, z)) (h : jm_do wc w Q k ls M (jm_ef (.i2l, a, z) k ls st M)) (hw : ∀ c', w c' → jm_G p l e R s mid args below meth c dC dI cA ad ids A m FQ gc gs scr c') : jm_G p l e R s mid args below meth c dC dI cA ad ids A m FQ gc gs scr (k, ls, st, M) := by
  obtain ⟨hd, hp, -⟩ := jm_nx hrc (by simp) rfl
  obtain ⟨x, r, rfl, h⟩ := ju1 h
  refine js_go (fun JL _ g _ => jk_cons (v := .inr (.inr x)) (show jm_in x from jk_hd g) (jk_tl g)) (fun JL H locs cells slots _ g _ _ _ _ hW => ?_) (hw _ h)
  rw [hp] at hW
  exact lv_i2l hF.1 hF.2.1 hd (jn_long (jk_hd g)) hW
theorem js_ladd (hF : jm_F p R s mid args c dC dI cA ad adV ids A m) (hrc : jm_rc m k = some (.ladd, a, z)) (h : jm_do wc w Q k ls M (jm_ef (.ladd, a, z) k ls st M)) (hw : ∀ c', w c' → jm_G p l e R s mid args below meth c dC dI cA ad ids A m FQ gc gs scr c') : jm_G p l e R s mid args below meth c dC dI cA ad ids A m FQ gc gs scr (k, ls, st, M) := by
  obtain ⟨hd, hp, -⟩ := jm_nx hrc (by simp) rfl
  obtain ⟨x, y, r, rfl, h⟩ := jl2 h
  refine js_go (fun JL _ g _ => jk_cons (v := .inr (.inr (x + y))) h.1 (jk_tl (jk_tl g))) (fun JL H locs cells slots _ _ _ _ _ _ hW => ?_) (hw _ h.2)
  rw [hp] at hW
  refine lv_ladd hF.1 hF.2.1 hd ?_
  rw [← Int64.ofInt_add]
  exact hW
theorem js_lsub (hF : jm_F p R s mid args c dC dI cA ad adV ids A m) (hrc : jm_rc m k = some (.lsub, a, z)) (h : jm_do wc w Q k ls M (jm_ef (.lsub, a, z) k ls st M)) (hw : ∀ c', w c' → jm_G p l e R s mid args below meth c dC dI cA ad ids A m FQ gc gs scr c') : jm_G p l e R s mid args below meth c dC dI cA ad ids A m FQ gc gs scr (k, ls, st, M) := by
  obtain ⟨hd, hp, -⟩ := jm_nx hrc (by simp) rfl
  obtain ⟨x, y, r, rfl, h⟩ := jl2 h
  refine js_go (fun JL _ g _ => jk_cons (v := .inr (.inr (x - y))) h.1 (jk_tl (jk_tl g))) (fun JL H locs cells slots _ _ _ _ _ _ hW => ?_) (hw _ h.2)
  rw [hp] at hW
  refine lv_lsub hF.1 hF.2.1 hd ?_
  rw [← Int64.ofInt_sub]
  exact hW
theorem js_lmul (hF : jm_F p R s mid args c dC dI cA ad adV ids A m) (hrc : jm_rc m k = some (.lmul, a, z)) (h : jm_do wc w Q k ls M (jm_ef (.lmul, a, z) k ls st M)) (hw : ∀ c', w c' → jm_G p l e R s mid args below meth c dC dI cA ad ids A m FQ gc gs scr c') : jm_G p l e R s mid args below meth c dC dI cA ad ids A m FQ gc gs scr (k, ls, st, M) := by
  obtain ⟨hd, hp, -⟩ := jm_nx hrc (by simp) rfl
  obtain ⟨x, y, r, rfl, h⟩ := jl2 h
  refine js_go (fun JL _ g _ => jk_cons (v := .inr (.inr (x * y))) h.1 (jk_tl (jk_tl g))) (fun JL H locs cells slots _ _ _ _ _ _ hW => ?_) (hw _ h.2)
  rw [hp] at hW
  refine lv_lmul hF.1 hF.2.1 hd ?_
  rw [← Int64.ofInt_mul]
  exact hW
theorem js_lcmp (hF : jm_F p R s mid args c dC dI cA ad adV ids A m) (hrc : jm_rc m k = some (.lcmp, a, z)) (h : jm_do wc w Q k ls M (jm_ef (.lcmp, a, z) k ls st M)) (hw : ∀ c', w c' → jm_G p l e R s mid args below meth c dC dI cA ad ids A m FQ gc gs scr c') : jm_G p l e R s mid args below meth c dC dI cA ad ids A m FQ gc gs scr (k, ls, st, M) := by
  obtain ⟨hd, hp, -⟩ := jm_nx hrc (by simp) rfl
  obtain ⟨x, y, r, rfl, h⟩ := jl2 h
  refine js_go (fun JL _ g _ => jk_cons (v := .inl (jm_cmp x y)) (jl_cmp (jk_hd (jk_tl g)) (jk_hd g)).2 (jk_tl (jk_tl g))) (fun JL H locs cells slots _ g _ _ _ _ hW => ?_) (hw _ h)
  rw [hp] at hW
  refine W.lcmp hF.1 hF.2.1 hd ?_
  rw [(jl_cmp (jk_hd (jk_tl g)) (jk_hd g)).1]
  exact hW
theorem js_dup (hF : jm_F p R s mid args c dC dI cA ad adV ids A m) (hrc : jm_rc m k = some (.dup, a, z)) (h : jm_do wc w Q k ls M (jm_ef (.dup, a, z) k ls st M)) (hw : ∀ c', w c' → jm_G p l e R s mid args below meth c dC dI cA ad ids A m FQ gc gs scr c') : jm_G p l e R s mid args below meth c dC dI cA ad ids A m FQ gc gs scr (k, ls, st, M) := by
  obtain ⟨hd, hp, -⟩ := jm_nx hrc (by simp) rfl
  have h : jm_do wc w Q k ls M (match (generalizing := false) st with
    | .inl x :: r => jm_go (k + 1) ls (.inl x :: .inl x :: r) M
    | .inr (.inl x) :: r => jm_go (k + 1) ls (.inr (.inl x) :: .inr (.inl x) :: r) M
    | _ => jm_bad M) := h
  split at h
  · refine js_go (fun JL _ g _ => jk_cons (jk_hd g) g) (fun JL H locs cells slots _ _ _ _ _ _ hW => ?_) (hw _ h)
    rw [hp] at hW
    exact lv_dup hF.1 hF.2.1 hd rfl hW
  · refine js_go (fun JL _ g _ => jk_cons (jk_hd g) g) (fun JL H locs cells slots _ _ _ _ _ _ hW => ?_) (hw _ h)
    rw [hp] at hW
    exact lv_dup hF.1 hF.2.1 hd rfl hW
  · exact (jm_rs_do h).elim
theorem js_dup2 (hF : jm_F p R s mid args c dC dI cA ad adV ids A m) (hrc : jm_rc m k = some (.dup2, a, z)) (h : jm_do wc w Q k ls M (jm_ef (.dup2, a, z) k ls st M)) (hw : ∀ c', w c' → jm_G p l e R s mid args below meth c dC dI cA ad ids A m FQ gc gs scr c') : jm_G p l e R s mid args below meth c dC dI cA ad ids A m FQ gc gs scr (k, ls, st, M) := by
  obtain ⟨hd, hp, -⟩ := jm_nx hrc (by simp) rfl
  have h : jm_do wc w Q k ls M (match (generalizing := false) st with
    | .inl y :: .inr (.inl x) :: r => jm_go (k + 1) ls (.inl y :: .inr (.inl x) :: .inl y :: .inr (.inl x) :: r) M
    | _ => jm_bad M) := h
  split at h
  · refine js_go (fun JL _ g _ => jk_cons (jk_hd g) (jk_cons (jk_hd (jk_tl g)) g)) (fun JL H locs cells slots _ _ _ _ _ _ hW => ?_) (hw _ h)
    rw [hp] at hW
    exact lv_dup2_11 hF.1 hF.2.1 hd rfl rfl hW
  · exact (jm_rs_do h).elim
theorem js_pop (hF : jm_F p R s mid args c dC dI cA ad adV ids A m) (hrc : jm_rc m k = some (.pop, a, z)) (h : jm_do wc w Q k ls M (jm_ef (.pop, a, z) k ls st M)) (hw : ∀ c', w c' → jm_G p l e R s mid args below meth c dC dI cA ad ids A m FQ gc gs scr c') : jm_G p l e R s mid args below meth c dC dI cA ad ids A m FQ gc gs scr (k, ls, st, M) := by
  obtain ⟨hd, hp, -⟩ := jm_nx hrc (by simp) rfl
  have h : jm_do wc w Q k ls M (match (generalizing := false) st with
    | .inl _ :: r => jm_go (k + 1) ls r M
    | _ => jm_bad M) := h
  split at h
  · refine js_go (fun JL _ g _ => jk_tl g) (fun JL H locs cells slots _ _ _ _ _ _ hW => ?_) (hw _ h)
    rw [hp] at hW
    exact lv_pop hF.1 hF.2.1 hd rfl hW
  · exact (jm_rs_do h).elim
theorem jm_swl_ix (x : Int) (ls : jm_Ls) (r : List jm_V) (M : jm_Mem) (d : jm_Cfg) : ∀ (ts : List Nat) (i : Int), jm_dl w (jm_swl x i ts ls r M) d → (∃ (j t : Nat), ts[j]? = some t ∧ x = i + (j : Int) ∧ w (t, ls, r, M)) ∨ ((x < i ∨ i + (ts.length : Int) ≤ x) ∧ w d)
  | [], i, h => Or.inr ⟨by simp; omega, h⟩
  | t :: ts, i, h => by
    by_cases hx : x = i
    · exact Or.inl ⟨0, t, rfl, by simp [hx], h.1 hx⟩
    · rcases jm_swl_ix x ls r M d ts (i + 1) (h.2 hx) with ⟨j, t', h1, h2, h3⟩ | ⟨h1, h2⟩
      · exact Or.inl ⟨j + 1, t', h1, by rw [h2]; simp; omega, h3⟩
      · refine Or.inr ⟨?_, h2⟩
        simp only [List.length_cons]
        omega
theorem js_switch {d lo hi : Int} {offs : Array Int} (hF : jm_F p R s mid args c dC dI cA ad adV ids A m) (hrc : jm_rc m k = some (.tableswitch d lo hi offs, a, z)) (h : jm_do wc w Q k ls M (jm_ef (.tableswitch d lo hi offs, a, z) k ls st M)) (hw : ∀ c', w c' → jm_G p l e R s mid args below meth c dC dI cA ad ids A m FQ gc gs scr c') : jm_G p l e R s mid args below meth c dC dI cA ad ids A m FQ gc gs scr (k, ls, st, M) := by
  obtain ⟨hd, h1, -⟩ := jm_dec hrc (by simp)
  have h1 : (match (generalizing := false) jm_sw a with
    | t :: ts => decide (lo = 0) && (decide (hi + 1 = ts.length) && (decide ((jm_bp m t : Int) = (jm_bp m k : Int) + d) && decide (offs.toList = ts.map (fun t => (jm_bp m t : Int) - (jm_bp m k : Int)))))
    | [] => false) = true := h1
  have h : jm_do wc w Q k ls M (match (generalizing := false) st with
    | .inl x :: r => match (generalizing := false) jm_sw a with
      | d :: ts => .inl ([], jm_swl x 0 ts ls r M, (d, ls, r, M))
      | [] => jm_bad M
    | _ => jm_bad M) := h
  split at h
  · rename_i x r _
    cases hs : jm_sw a with
    | nil => rw [hs] at h; exact (jm_rs_do h).elim
    | cons t ts =>
      rw [hs] at h h1
      dsimp only at h1
      rw [Bool.and_eq_true, Bool.and_eq_true, Bool.and_eq_true] at h1
      have e1 : lo = 0 := of_decide_eq_true h1.1
      have e2 : hi + 1 = ts.length := of_decide_eq_true h1.2.1
      have e3 : (jm_bp m t : Int) = (jm_bp m k : Int) + d := of_decide_eq_true h1.2.2.1
      have e4 : offs.toList = ts.map (fun t => (jm_bp m t : Int) - (jm_bp m k : Int)) := of_decide_eq_true h1.2.2.2
      have hdl : jm_dl w (jm_swl x 0 ts ls r M) (t, ls, r, M) := h
      subst e1
      rcases jm_swl_ix x ls r M _ ts 0 hdl with ⟨j, t', g1, g2, g3⟩ | ⟨g1, g2⟩
      · have hj : j < ts.length := (List.getElem?_eq_some_iff.mp g1).1
        refine js_go (fun JL _ g _ => jk_tl g) (fun JL H locs cells slots _ g _ _ _ _ hW => ?_) (hw _ g3)
        have hx := jk_hd g
        refine lv_tableIn hF.1 hF.2.1 hd (tgt := jm_bp m t') (off := (jm_bp m t' : Int) - (jm_bp m k : Int)) (by rw [jn_toInt hx]; omega) (by rw [jn_toInt hx]; omega) ?_ (by omega) hW
        rw [jn_toInt hx, ← Array.getElem?_toList, e4, List.getElem?_map]
        have : (x - 0).toNat = j := by omega
        rw [this, g1]
        rfl
      · refine js_go (fun JL _ g _ => jk_tl g) (fun JL H locs cells slots _ g _ _ _ _ hW => ?_) (hw _ g2)
        have hx := jk_hd g
        exact lv_tableOut hF.1 hF.2.1 hd (tgt := jm_bp m t) (by rw [jn_toInt hx]; omega) (by omega) hW
  · exact (jm_rs_do h).elim
end JS3
