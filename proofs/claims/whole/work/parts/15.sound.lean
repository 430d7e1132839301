/-! SOUNDNESS, instruction by instruction -/
/-- a frame of method m -/
def jm_F (p : Program) (R : Room) (s : State) (mid : MethodId) (args : Array Value) (c : Code) (dC : Nat → ClassId) (dI : Nat → Nat → Nat) (cA : Nat → ClassId) (ad adV : Nat → Nat) (ids : List Nat) (A : Nat → Prop) (m : Nat) : Prop :=
  p.tables.exec = Jvm.exec ∧ c.code = jm_b m ∧ c.maxLocals = (jm_mi m).2.2.2.1 ∧ s.vm.findClass (jm_cn (jm_mi m).1) = some mid.cls ∧ (∀ w ∈ jm_g, w.before args s = true) ∧ (jm_mi m).2.2.2.2.1 ≤ R.frames ∧ (jm_mi m).2.2.2.2.2.1 ≤ R.locals ∧ jm_ctx dC dI cA ad adV A s s.heap ∧ jm_wok ad ids A ∧ (∀ q : Nat, s.heap.size ≤ q → A q)
/-- from the place cf of method m the machine comes to FQ -/
def jm_G (p : Program) (l : Launch) (e : Env) (R : Room) (s : State) (mid : MethodId) (args : Array Value) (below : List Frame) (meth : Method) (c : Code) (dC : Nat → ClassId) (dI : Nat → Nat → Nat) (cA : Nat → ClassId) (ad : Nat → Nat) (ids : List Nat) (A : Nat → Prop) (m : Nat) (FQ : State → Prop) (gc gs : Int) (scr : Int → Int) (cf : jm_Cfg) : Prop :=
  ∀ (JL : Array Slot) (H : Heap) (locs : List Loc), jm_lr ad ids m cf.2.1 JL → (∀ v ∈ cf.2.2.1, jm_okv ids m v) → jm_okM cf.2.2.2 → va_P (dC, dI) vwCl (jm_wd cA ad ids cf.2.2.2) H → va_S A s.heap H locs → gc ≤ cf.2.2.2 999 0 → gs ≤ cf.2.2.2 999 1 → (m = 216 → cf.2.2.2 998 = scr) → W p l e R s mid args below meth c H locs (cf.2.2.2 999 0 - gc).toNat (cf.2.2.2 999 1 - gs).toNat FQ (F0 mid (jm_bp m cf.1) JL (cf.2.2.1.map (jm_val ad)))
theorem jm_wd_at {cA : Nat → ClassId} {ad : Nat → Nat} {ids : List Nat} {M : jm_Mem} {c : Nat} (h : c ∈ ids) : ∃ q0 : Nat, ids[q0]? = some c ∧ (jm_wd cA ad ids M)[q0]? = some (ad c, jm_ce cA ad M c) := by
  obtain ⟨q0, hq⟩ := List.getElem?_of_mem h
  refine ⟨q0, hq, ?_⟩
  unfold jm_wd
  rw [List.getElem?_map, hq]
  rfl
theorem jm_ce_congr {cA : Nat → ClassId} {ad : Nat → Nat} {M M' : jm_Mem} {c : Nat} (h : M' c = M c) : jm_ce cA ad M' c = jm_ce cA ad M c := by
  have hf : ∀ (fs : List Nat) (k : Nat), jm_fv ad M' c k fs = jm_fv ad M c k fs := by
    intro fs
    induction fs with
    | nil => intro k; rfl
    | cons f fs ih =>
      intro k
      show jm_cv ad M' c k f :: _ = jm_cv ad M c k f :: _
      rw [ih (k + 1)]
      congr 1
      unfold jm_cv
      split <;> first | rw [h] | rfl
  unfold jm_ce
  split <;> first | rw [h] | rw [hf] | rfl
theorem jm_wd_congr {cA : Nat → ClassId} {ad : Nat → Nat} {ids : List Nat} {M M' : jm_Mem} (h : ∀ c ∈ ids, M' c = M c) : jm_wd cA ad ids M' = jm_wd cA ad ids M := by
  unfold jm_wd
  exact List.map_congr_left (fun c hc => by rw [jm_ce_congr (h c hc)])
theorem jm_wd_set {cA : Nat → ClassId} {ad : Nat → Nat} {ids : List Nat} {M M' : jm_Mem} {c q0 : Nat} (hn : ids.Nodup) (hq : ids[q0]? = some c) (h : ∀ d, d ≠ c → M' d = M d) : (jm_wd cA ad ids M).set q0 (ad c, jm_ce cA ad M' c) = jm_wd cA ad ids M' := by
  unfold jm_wd
  apply List.ext_getElem?
  intro i
  rw [List.getElem?_set, List.getElem?_map, List.getElem?_map, List.length_map]
  by_cases hi : q0 = i
  · subst hi
    rw [if_pos rfl, hq, if_pos (List.getElem?_eq_some_iff.mp hq).1]
    rfl
  · rw [if_neg hi]
    cases hd : ids[i]? with
    | none => rfl
    | some d =>
      have hdc : d ≠ c := by
        intro hdc
        subst hdc
        exact hi ((List.getElem?_inj (List.getElem?_eq_some_iff.mp hq).1 hn).mp (hq.trans hd.symm))
      show some (ad d, jm_ce cA ad M d) = some (ad d, jm_ce cA ad M' d)
      rw [jm_ce_congr (h d hdc)]
theorem jm_wd_D {cA : Nat → ClassId} {ad : Nat → Nat} {ids : List Nat} {A : Nat → Prop} (M : jm_Mem) (h : jm_wok ad ids A) : va_D A (jm_wd cA ad ids M) := by
  obtain ⟨hn, -, hi, hA, -, -⟩ := h
  have at' : ∀ (k : Nat) (q : Nat × va_E), (jm_wd cA ad ids M)[k]? = some q → ∃ c, ids[k]? = some c ∧ q.1 = ad c := by
    intro k q hk
    unfold jm_wd at hk
    rw [List.getElem?_map] at hk
    cases hc : ids[k]? with
    | none => rw [hc] at hk; cases hk
    | some c => rw [hc] at hk; cases hk; exact ⟨c, rfl, rfl⟩
  refine ⟨fun i j x y hx hy hxy => ?_, fun k q hk => ?_⟩
  · obtain ⟨a, h1, h2⟩ := at' i x hx
    obtain ⟨b, h3, h4⟩ := at' j y hy
    have hab := hi a (List.mem_of_getElem? h1) b (List.mem_of_getElem? h3) (by rw [← h2, ← h4, hxy])
    subst hab
    exact (List.getElem?_inj (List.getElem?_eq_some_iff.mp h1).1 hn).mp (h1.trans h3.symm)
  · obtain ⟨a, h1, h2⟩ := at' k q hk
    rw [h2]
    exact hA a (List.mem_of_getElem? h1)
theorem jm_fv_at {ad : Nat → Nat} {M : jm_Mem} {c : Nat} : ∀ (fs : List Nat) (j k z : Nat), jm_nth fs k = some z → (jm_fv ad M c j fs)[k]? = some (jm_cv ad M c (j + k) z)
  | [], _, _, _, h => nomatch h
  | f :: fs, j, 0, z, h => by
    have : f = z := Option.some.inj h
    subst this
    rfl
  | f :: fs, j, k + 1, z, h => by
    have := jm_fv_at (ad := ad) (M := M) (c := c) fs (j + 1) k z h
    show (jm_fv ad M c (j + 1) fs)[k]? = _
    rw [this, show j + 1 + k = j + (k + 1) by omega]
theorem jm_fv_len {ad : Nat → Nat} {M : jm_Mem} {c : Nat} : ∀ (fs : List Nat) (j : Nat), (jm_fv ad M c j fs).length = fs.length
  | [], _ => rfl
  | f :: fs, j => by show (jm_fv ad M c (j + 1) fs).length + 1 = _; rw [jm_fv_len fs (j + 1)]; rfl
theorem jm_nth_lt {α : Type} : ∀ (l : List α) (k : Nat) (z : α), jm_nth l k = some z → k < l.length
  | [], _, _, h => nomatch h
  | _ :: _, 0, _, _ => Nat.succ_pos _
  | _ :: l, k + 1, z, h => Nat.succ_lt_succ (jm_nth_lt l k z h)
/-- what a written number does to the fields -/
theorem jm_fv_set {ad : Nat → Nat} {M : jm_Mem} {c : Nat} {i v : Int} : ∀ (fs : List Nat) (j k z : Nat), jm_nth fs k = some z → i = ((j + k : Nat) : Int) → (z = 0 ∨ z = 1 ∨ z = 2) → jm_fv ad (jm_st M c i v) c j fs = (jm_fv ad M c j fs).set k (jm_cv ad (jm_st M c i v) c (j + k) z)
  | [], _, _, _, h, _, _ => nomatch h
  | f :: fs, j, 0, z, h, hi, hz => by
    have hf : f = z := Option.some.inj h
    subst hf
    have hrest : ∀ (fs : List Nat) (q : Nat), j < q → jm_fv ad (jm_st M c i v) c q fs = jm_fv ad M c q fs := by
      intro fs
      induction fs with
      | nil => intro q _; rfl
      | cons g gs ih =>
        intro q hq
        show jm_cv ad (jm_st M c i v) c q g :: _ = jm_cv ad M c q g :: _
        rw [ih (q + 1) (by omega)]
        have hcell : jm_st M c i v c (q : Int) = M c (q : Int) := by
          unfold jm_st jm_sr jm_up
          rw [if_pos rfl, if_neg (by omega)]
        congr 1
        unfold jm_cv
        split <;> first | rw [hcell] | rfl
    show jm_cv ad (jm_st M c i v) c j f :: jm_fv ad (jm_st M c i v) c (j + 1) fs = jm_cv ad (jm_st M c i v) c (j + 0) f :: jm_fv ad M c (j + 1) fs
    rw [hrest fs (j + 1) (by omega)]
    rfl
  | f :: fs, j, k + 1, z, h, hi, hz => by
    have ih := jm_fv_set (ad := ad) (M := M) (c := c) (i := i) (v := v) fs (j + 1) k z h (by rw [hi]; congr 1; omega) hz
    show jm_cv ad (jm_st M c i v) c j f :: jm_fv ad (jm_st M c i v) c (j + 1) fs = jm_cv ad M c j f :: (jm_fv ad M c (j + 1) fs).set k _
    have hcell : jm_st M c i v c (j : Int) = M c (j : Int) := by
      unfold jm_st jm_sr jm_up
      rw [if_pos rfl, if_neg (by omega)]
    rw [ih, show j + 1 + k = j + (k + 1) by omega]
    congr 1
    unfold jm_cv
    split <;> first | rw [hcell] | rfl
theorem jm_st_ne {M : jm_Mem} {c : Nat} {i v : Int} {d : Nat} (h : d ≠ c) : jm_st M c i v d = M d := by
  unfold jm_st jm_sr
  rw [if_neg h]
theorem jm_st_eq {M : jm_Mem} {c : Nat} {i v j : Int} : jm_st M c i v c j = if j = i then v else M c j := by
  unfold jm_st jm_sr jm_up
  rw [if_pos rfl]
theorem jm_okM_st {M : jm_Mem} {c : Nat} {i v : Int} (h : jm_okM M) (hv : jm_in v) : jm_okM (jm_st M c i v) := by
  intro d j hd
  by_cases hdc : d = c
  · subst hdc
    rw [jm_st_eq]
    split
    · exact hv
    · exact h d j hd
  · rw [jm_st_ne hdc]
    exact h d j hd
theorem jm_ls_get : ∀ (ls : jm_Ls) (i : Nat) (v : jm_V) (j : Nat) (w : jm_V), jm_lg (jm_ls ls i v) j = some w → (j = i ∧ w = v) ∨ (j ≠ i ∧ jm_lg ls j = some w)
  | [], _, _, _, _, h => nomatch h
  | a :: l, 0, v, 0, w, h => Or.inl ⟨rfl, (Option.some.inj h).symm⟩
  | a :: l, 0, v, j + 1, w, h => Or.inr ⟨by omega, h⟩
  | a :: l, i + 1, v, 0, w, h => Or.inr ⟨by omega, h⟩
  | a :: l, i + 1, v, j + 1, w, h => by
    rcases jm_ls_get l i v j w h with ⟨h1, h2⟩ | ⟨h1, h2⟩
    · exact Or.inl ⟨by omega, h2⟩
    · exact Or.inr ⟨by omega, h2⟩
theorem jm_rs_do {wc : Nat → List jm_V → jm_Mem → jm_Q → Prop} {w : jm_Cfg → Prop} {Q : jm_Q} {k : Nat} {ls : jm_Ls} {M : jm_Mem} (h : jm_do wc w Q k ls M (jm_bad M)) : False := h.1
section JS
variable {p : Program} {l : Launch} {e : Env} {R : Room} {s : State} {mid : MethodId} {args : Array Value} {below : List Frame} {meth : Method} {c : Code}
variable {dC : Nat → ClassId} {dI : Nat → Nat → Nat} {cA : Nat → ClassId} {ad adV : Nat → Nat} {ids : List Nat} {A : Nat → Prop} {m : Nat} {FQ : State → Prop} {gc gs : Int} {scr : Int → Int}
variable {wc : Nat → List jm_V → jm_Mem → jm_Q → Prop} {w : jm_Cfg → Prop} {Q : jm_Q} {k : Nat} {ls : jm_Ls} {st : List jm_V} {M : jm_Mem} {a : Nat} {z : Int}
theorem jb2 {f : Int → Int → List jm_V → jm_Eff} (h : jm_do wc w Q k ls M (jm_b2 M st f)) : ∃ x y r, st = .inl y :: .inl x :: r ∧ jm_do wc w Q k ls M (f x y r) := by
  unfold jm_b2 at h
  split at h
  · exact ⟨_, _, _, rfl, h⟩
  · exact (jm_rs_do h).elim
theorem jl2 {f : Int → Int → List jm_V → jm_Eff} (h : jm_do wc w Q k ls M (jm_l2 M st f)) : ∃ x y r, st = .inr (.inr y) :: .inr (.inr x) :: r ∧ jm_do wc w Q k ls M (f x y r) := by
  unfold jm_l2 at h
  split at h
  · exact ⟨_, _, _, rfl, h⟩
  · exact (jm_rs_do h).elim
theorem ju1 {f : Int → List jm_V → jm_Eff} (h : jm_do wc w Q k ls M (jm_u1 M st f)) : ∃ x r, st = .inl x :: r ∧ jm_do wc w Q k ls M (f x r) := by
  unfold jm_u1 at h
  split at h
  · exact ⟨_, _, rfl, h⟩
  · exact (jm_rs_do h).elim
/-- an instruction that leaves locals and memory alone -/
theorem js_go {k' : Nat} {st' : List jm_V} (hok : ∀ JL, jm_lr ad ids m ls JL → (∀ v ∈ st, jm_okv ids m v) → jm_okM M → ∀ v ∈ st', jm_okv ids m v)
    (hrow : ∀ (JL : Array Slot) (H : Heap) (locs : List Loc) (cells slots : Nat), jm_lr ad ids m ls JL → (∀ v ∈ st, jm_okv ids m v) → jm_okM M → va_P (dC, dI) vwCl (jm_wd cA ad ids M) H → va_S A s.heap H locs → (m = 216 → M 998 = scr) → W p l e R s mid args below meth c H locs cells slots FQ (F0 mid (jm_bp m k') JL (st'.map (jm_val ad))) → W p l e R s mid args below meth c H locs cells slots FQ (F0 mid (jm_bp m k) JL (st.map (jm_val ad))))
    (hw : jm_G p l e R s mid args below meth c dC dI cA ad ids A m FQ gc gs scr (k', ls, st', M)) : jm_G p l e R s mid args below meth c dC dI cA ad ids A m FQ gc gs scr (k, ls, st, M) := fun JL H locs h1 h2 h3 h4 h5 h6 h7 h8 => hrow JL H locs _ _ h1 h2 h3 h4 h5 h8 (hw JL H locs h1 (hok JL h1 h2 h3) h3 h4 h5 h6 h7 h8)
theorem jm_nx {i : Instr} (hrc : jm_rc m k = some (i, a, z)) (hn : i ≠ .nop) (h1 : jm_ck1 m k (i, a, z) = Nat.beq (jm_bp m (k + 1)) (jm_bp m k + jm_len (i, a, z))) : decode (jm_b m) (jm_bp m k) = .ok (i, jm_len (i, a, z)) ∧ jm_bp m (k + 1) = jm_bp m k + jm_len (i, a, z) ∧ jm_ck2 m (i, a, z) = true := by
  obtain ⟨hd, h2, h3⟩ := jm_dec hrc hn
  rw [h1] at h2
  exact ⟨hd, Nat.eq_of_beq_eq_true h2, h3⟩
theorem js_bin (hF : jm_F p R s mid args c dC dI cA ad adV ids A m) {i : Instr} (hrc : jm_rc m k = some (i, a, z)) (hn : i ≠ .nop) (h1 : jm_ck1 m k (i, a, z) = Nat.beq (jm_bp m (k + 1)) (jm_bp m k + jm_len (i, a, z))) (hl : jm_len (i, a, z) = 1) {x y v : Int} {r : List jm_V} (op : Int32 → Int32 → Int32) (hv : jm_in x → jm_in y → op (Int32.ofInt x) (Int32.ofInt y) = Int32.ofInt v ∧ jm_in v)
    (row : jm_in x → jm_in y → ∀ (JL : Array Slot) (H : Heap) (locs : List Loc) (cells slots pc : Nat) (rest : List Value), decode (jm_b m) pc = .ok (i, 1) → W p l e R s mid args below meth c H locs cells slots FQ (F0 mid (pc + 1) JL (.int (op (Int32.ofInt x) (Int32.ofInt y)) :: rest)) → W p l e R s mid args below meth c H locs cells slots FQ (F0 mid pc JL (.int (Int32.ofInt y) :: .int (Int32.ofInt x) :: rest)))
    (hw : jm_G p l e R s mid args below meth c dC dI cA ad ids A m FQ gc gs scr (k + 1, ls, .inl v :: r, M)) : jm_G p l e R s mid args below meth c dC dI cA ad ids A m FQ gc gs scr (k, ls, .inl y :: .inl x :: r, M) := by
  obtain ⟨hd, hp, -⟩ := jm_nx hrc hn h1
  rw [hl] at hd hp
  have bx : (∀ u ∈ (.inl y :: .inl x :: r : List jm_V), jm_okv ids m u) → jm_in x ∧ jm_in y := fun h => ⟨h (.inl x) (by simp), h (.inl y) (by simp)⟩
  refine js_go (fun JL _ h _ u hu => ?_) (fun JL H locs cells slots _ h _ _ _ _ hW => ?_) hw
  · obtain ⟨b1, b2⟩ := bx h
    rcases List.mem_cons.mp hu with rfl | hu
    · exact (hv b1 b2).2
    · exact h u (List.mem_cons_of_mem _ (List.mem_cons_of_mem _ hu))
  · obtain ⟨b1, b2⟩ := bx h
    rw [hp] at hW
    refine row b1 b2 JL H locs cells slots _ _ hd ?_
    rw [(hv b1 b2).1]
    exact hW
theorem js_iadd (hF : jm_F p R s mid args c dC dI cA ad adV ids A m) (hrc : jm_rc m k = some (.iadd, a, z)) (h : jm_do wc w Q k ls M (jm_ef (.iadd, a, z) k ls st M)) (hw : ∀ c', w c' → jm_G p l e R s mid args below meth c dC dI cA ad ids A m FQ gc gs scr c') : jm_G p l e R s mid args below meth c dC dI cA ad ids A m FQ gc gs scr (k, ls, st, M) := by
  obtain ⟨x, y, r, rfl, h⟩ := jb2 h
  exact js_bin hF hrc (by simp) rfl rfl (· + ·) (fun _ _ => ⟨(Int32.ofInt_add _ _).symm, h.1⟩) (fun _ _ JL H locs cells slots pc rest hd hW => lv_iadd hF.1 hF.2.1 hd hW) (hw _ h.2)
theorem js_isub (hF : jm_F p R s mid args c dC dI cA ad adV ids A m) (hrc : jm_rc m k = some (.isub, a, z)) (h : jm_do wc w Q k ls M (jm_ef (.isub, a, z) k ls st M)) (hw : ∀ c', w c' → jm_G p l e R s mid args below meth c dC dI cA ad ids A m FQ gc gs scr c') : jm_G p l e R s mid args below meth c dC dI cA ad ids A m FQ gc gs scr (k, ls, st, M) := by
  obtain ⟨x, y, r, rfl, h⟩ := jb2 h
  exact js_bin hF hrc (by simp) rfl rfl (· - ·) (fun _ _ => ⟨(Int32.ofInt_sub _ _).symm, h.1⟩) (fun _ _ JL H locs cells slots pc rest hd hW => lv_isub hF.1 hF.2.1 hd hW) (hw _ h.2)
theorem js_imul (hF : jm_F p R s mid args c dC dI cA ad adV ids A m) (hrc : jm_rc m k = some (.imul, a, z)) (h : jm_do wc w Q k ls M (jm_ef (.imul, a, z) k ls st M)) (hw : ∀ c', w c' → jm_G p l e R s mid args below meth c dC dI cA ad ids A m FQ gc gs scr c') : jm_G p l e R s mid args below meth c dC dI cA ad ids A m FQ gc gs scr (k, ls, st, M) := by
  obtain ⟨x, y, r, rfl, h⟩ := jb2 h
  exact js_bin hF hrc (by simp) rfl rfl (· * ·) (fun _ _ => ⟨(Int32.ofInt_mul _ _).symm, h.1⟩) (fun _ _ JL H locs cells slots pc rest hd hW => lv_imul hF.1 hF.2.1 hd hW) (hw _ h.2)
theorem jn_ne0 {y : Int} (hy : jm_in y) (h : 0 < y) : ¬ Int32.ofInt y = 0 := fun q => by
  have := (jn_eq hy jn_in0).mp q
  omega
theorem js_idiv (hF : jm_F p R s mid args c dC dI cA ad adV ids A m) (hrc : jm_rc m k = some (.idiv, a, z)) (h : jm_do wc w Q k ls M (jm_ef (.idiv, a, z) k ls st M)) (hw : ∀ c', w c' → jm_G p l e R s mid args below meth c dC dI cA ad ids A m FQ gc gs scr c') : jm_G p l e R s mid args below meth c dC dI cA ad ids A m FQ gc gs scr (k, ls, st, M) := by
  obtain ⟨x, y, r, rfl, h⟩ := jb2 h
  exact js_bin hF hrc (by simp) rfl rfl (· / ·) (fun h1 h2 => jn_dv h1 h2 h.1) (fun _ h2 JL H locs cells slots pc rest hd hW => lv_idiv hF.1 hF.2.1 hd (jn_ne0 h2 h.1) hW) (hw _ h.2)
theorem js_irem (hF : jm_F p R s mid args c dC dI cA ad adV ids A m) (hrc : jm_rc m k = some (.irem, a, z)) (h : jm_do wc w Q k ls M (jm_ef (.irem, a, z) k ls st M)) (hw : ∀ c', w c' → jm_G p l e R s mid args below meth c dC dI cA ad ids A m FQ gc gs scr c') : jm_G p l e R s mid args below meth c dC dI cA ad ids A m FQ gc gs scr (k, ls, st, M) := by
  obtain ⟨x, y, r, rfl, h⟩ := jb2 h
  exact js_bin hF hrc (by simp) rfl rfl (fun x y => x - x / y * y) (fun h1 h2 => jn_rm h1 h2 h.1) (fun _ h2 JL H locs cells slots pc rest hd hW => lv_irem hF.1 hF.2.1 hd (jn_ne0 h2 h.1) hW) (hw _ h.2)
theorem js_iand (hF : jm_F p R s mid args c dC dI cA ad adV ids A m) (hrc : jm_rc m k = some (.iand, a, z)) (h : jm_do wc w Q k ls M (jm_ef (.iand, a, z) k ls st M)) (hw : ∀ c', w c' → jm_G p l e R s mid args below meth c dC dI cA ad ids A m FQ gc gs scr c') : jm_G p l e R s mid args below meth c dC dI cA ad ids A m FQ gc gs scr (k, ls, st, M) := by
  obtain ⟨x, y, r, rfl, h⟩ := jb2 h
  exact js_bin hF hrc (by simp) rfl rfl (· &&& ·) (fun _ _ => jn_and h.1) (fun _ _ JL H locs cells slots pc rest hd hW => lv_iand hF.1 hF.2.1 hd hW) (hw _ h.2)
theorem js_ior (hF : jm_F p R s mid args c dC dI cA ad adV ids A m) (hrc : jm_rc m k = some (.ior, a, z)) (h : jm_do wc w Q k ls M (jm_ef (.ior, a, z) k ls st M)) (hw : ∀ c', w c' → jm_G p l e R s mid args below meth c dC dI cA ad ids A m FQ gc gs scr c') : jm_G p l e R s mid args below meth c dC dI cA ad ids A m FQ gc gs scr (k, ls, st, M) := by
  obtain ⟨x, y, r, rfl, h⟩ := jb2 h
  exact js_bin hF hrc (by simp) rfl rfl (· ||| ·) (fun h1 h2 => jn_or h1 h2 h.1 h.2.1) (fun _ _ JL H locs cells slots pc rest hd hW => lv_ior hF.1 hF.2.1 hd hW) (hw _ h.2.2)
theorem js_ishr (hF : jm_F p R s mid args c dC dI cA ad adV ids A m) (hrc : jm_rc m k = some (.ishr, a, z)) (h : jm_do wc w Q k ls M (jm_ef (.ishr, a, z) k ls st M)) (hw : ∀ c', w c' → jm_G p l e R s mid args below meth c dC dI cA ad ids A m FQ gc gs scr c') : jm_G p l e R s mid args below meth c dC dI cA ad ids A m FQ gc gs scr (k, ls, st, M) := by
  obtain ⟨x, y, r, rfl, h⟩ := jb2 h
  exact js_bin hF hrc (by simp) rfl rfl (fun x y => x >>> (y &&& 31)) (fun h1 _ => jn_shr h1 h.1 h.2.1) (fun _ _ JL H locs cells slots pc rest hd hW => lv_ishr hF.1 hF.2.1 hd hW) (hw _ h.2.2)
theorem js_ishl (hF : jm_F p R s mid args c dC dI cA ad adV ids A m) (hrc : jm_rc m k = some (.ishl, a, z)) (h : jm_do wc w Q k ls M (jm_ef (.ishl, a, z) k ls st M)) (hw : ∀ c', w c' → jm_G p l e R s mid args below meth c dC dI cA ad ids A m FQ gc gs scr c') : jm_G p l e R s mid args below meth c dC dI cA ad ids A m FQ gc gs scr (k, ls, st, M) := by
  obtain ⟨x, y, r, rfl, h⟩ := jb2 h
  obtain ⟨h0, h1, h2, h3⟩ := h
  subst h0
  exact js_bin hF hrc (by simp) rfl rfl (fun x y => x <<< (y &&& 31)) (fun _ _ => jn_shl h1 h2) (fun _ _ JL H locs cells slots pc rest hd hW => lv_ishl hF.1 hF.2.1 hd hW) (hw _ h3)
end JS
