/-- the listed locals -/
def jm_al (ad : Nat → Nat) : Nat → jm_Ls → List (Nat × Value)
  | _, [] => []
  | i, none :: l => jm_al ad (i + 1) l
  | i, some v :: l => (i, jm_val ad v) :: jm_al ad (i + 1) l
section JS2
variable {p : Program} {l : Launch} {e : Env} {R : Room} {s : State} {mid : MethodId} {args : Array Value} {below : List Frame} {meth : Method} {c : Code}
variable {dC : Nat → ClassId} {dI : Nat → Nat → Nat} {cA : Nat → ClassId} {ad adV : Nat → Nat} {ids : List Nat} {A : Nat → Prop} {m : Nat} {FQ : State → Prop} {gc gs : Int} {scr : Int → Int}
variable {wc : Nat → List jm_V → jm_Mem → jm_Q → Prop} {w : jm_Cfg → Prop} {Q : jm_Q} {k : Nat} {ls : jm_Ls} {st : List jm_V} {M : jm_Mem} {a : Nat} {z : Int}
/-- one more value on the stack -/
theorem jk_cons {v : jm_V} {r : List jm_V} (hv : jm_okv ids m v) (h : ∀ u ∈ r, jm_okv ids m u) : ∀ u ∈ v :: r, jm_okv ids m u := fun u hu => (List.mem_cons.mp hu).elim (fun q => q ▸ hv) (h u)
theorem jk_tl {v : jm_V} {r : List jm_V} (h : ∀ u ∈ v :: r, jm_okv ids m u) : ∀ u ∈ r, jm_okv ids m u := fun u hu => h u (List.mem_cons_of_mem _ hu)
theorem jk_hd {v : jm_V} {r : List jm_V} (h : ∀ u ∈ v :: r, jm_okv ids m u) : jm_okv ids m v := h v List.mem_cons_self
/-- a number is pushed -/
theorem js_push (hF : jm_F p R s mid args c dC dI cA ad adV ids A m) {i : Instr} (hrc : jm_rc m k = some (i, a, z)) (hn : i ≠ .nop) (h1 : jm_ck1 m k (i, a, z) = Nat.beq (jm_bp m (k + 1)) (jm_bp m k + jm_len (i, a, z))) {v : jm_V} (hv : jm_okv ids m v)
    (row : decode (jm_b m) (jm_bp m k) = .ok (i, jm_len (i, a, z)) → jm_ck2 m (i, a, z) = true → ∀ (JL : Array Slot) (H : Heap) (locs : List Loc) (cells slots : Nat) (rest : List Value), W p l e R s mid args below meth c H locs cells slots FQ (F0 mid (jm_bp m k + jm_len (i, a, z)) JL (jm_val ad v :: rest)) → W p l e R s mid args below meth c H locs cells slots FQ (F0 mid (jm_bp m k) JL rest))
    (hw : jm_G p l e R s mid args below meth c dC dI cA ad ids A m FQ gc gs scr (k + 1, ls, v :: st, M)) : jm_G p l e R s mid args below meth c dC dI cA ad ids A m FQ gc gs scr (k, ls, st, M) := by
  obtain ⟨hd, hp, h2⟩ := jm_nx hrc hn h1
  refine js_go (fun JL _ h _ => jk_cons hv h) (fun JL H locs cells slots _ h _ _ _ _ hW => ?_) hw
  rw [hp] at hW
  exact row hd h2 JL H locs cells slots _ hW
theorem js_iconst {n : Int} (hF : jm_F p R s mid args c dC dI cA ad adV ids A m) (hrc : jm_rc m k = some (.iconst n, a, z)) (h : jm_do wc w Q k ls M (jm_ef (.iconst n, a, z) k ls st M)) (hw : ∀ c', w c' → jm_G p l e R s mid args below meth c dC dI cA ad ids A m FQ gc gs scr c') : jm_G p l e R s mid args below meth c dC dI cA ad ids A m FQ gc gs scr (k, ls, st, M) := by
  have h2 : n = z ∧ -1 ≤ n ∧ n ≤ 5 := of_decide_eq_true (jm_nx hrc (by simp) rfl).2.2
  refine js_push hF hrc (by simp) rfl (v := .inl z) ⟨by omega, by omega⟩ (fun hd _ JL H locs cells slots rest hW => ?_) (hw _ h)
  exact lv_iconst hF.1 hF.2.1 hd (by rw [h2.1]) hW
theorem js_bipush {n : Int} (hF : jm_F p R s mid args c dC dI cA ad adV ids A m) (hrc : jm_rc m k = some (.bipush n, a, z)) (h : jm_do wc w Q k ls M (jm_ef (.bipush n, a, z) k ls st M)) (hw : ∀ c', w c' → jm_G p l e R s mid args below meth c dC dI cA ad ids A m FQ gc gs scr c') : jm_G p l e R s mid args below meth c dC dI cA ad ids A m FQ gc gs scr (k, ls, st, M) := by
  have h2 : n = z ∧ -128 ≤ n ∧ n ≤ 127 := of_decide_eq_true (jm_nx hrc (by simp) rfl).2.2
  refine js_push hF hrc (by simp) rfl (v := .inl z) ⟨by omega, by omega⟩ (fun hd _ JL H locs cells slots rest hW => ?_) (hw _ h)
  exact lv_bipush hF.1 hF.2.1 hd (by rw [← h2.1]; exact jn_bipush h2.2.1 h2.2.2) hW
theorem js_sipush {n : Int} (hF : jm_F p R s mid args c dC dI cA ad adV ids A m) (hrc : jm_rc m k = some (.sipush n, a, z)) (h : jm_do wc w Q k ls M (jm_ef (.sipush n, a, z) k ls st M)) (hw : ∀ c', w c' → jm_G p l e R s mid args below meth c dC dI cA ad ids A m FQ gc gs scr c') : jm_G p l e R s mid args below meth c dC dI cA ad ids A m FQ gc gs scr (k, ls, st, M) := by
  have h2 : n = z ∧ -32768 ≤ n ∧ n ≤ 32767 := of_decide_eq_true (jm_nx hrc (by simp) rfl).2.2
  refine js_push hF hrc (by simp) rfl (v := .inl z) ⟨by omega, by omega⟩ (fun hd _ JL H locs cells slots rest hW => ?_) (hw _ h)
  exact lv_sipush hF.1 hF.2.1 hd (by rw [← h2.1]; exact jn_sipush h2.2.1 h2.2.2) hW
theorem js_lconst {n : Fin 2} (hF : jm_F p R s mid args c dC dI cA ad adV ids A m) (hrc : jm_rc m k = some (.lconst n, a, z)) (h : jm_do wc w Q k ls M (jm_ef (.lconst n, a, z) k ls st M)) (hw : ∀ c', w c' → jm_G p l e R s mid args below meth c dC dI cA ad ids A m FQ gc gs scr c') : jm_G p l e R s mid args below meth c dC dI cA ad ids A m FQ gc gs scr (k, ls, st, M) := by
  have h2 : n = 0 := of_decide_eq_true (jm_nx hrc (by simp) rfl).2.2
  subst h2
  refine js_push hF hrc (by simp) rfl (v := .inr (.inr 0)) jn_in0 (fun hd _ JL H locs cells slots rest hW => ?_) (hw _ h)
  exact lv_lconst hF.1 hF.2.1 hd rfl hW
theorem jm_any4 {i : Nat} {v : Int} {L : List (Nat × Nat × Int × Nat)} {cl : Nat} (h : L.any (fun q => Nat.beq q.1 cl && (Nat.beq q.2.1 i && decide (q.2.2.1 = v))) = true) : ∃ q ∈ L, q.1 = cl ∧ q.2.1 = i ∧ q.2.2.1 = v := by
  obtain ⟨q, hq, h1⟩ := List.any_eq_true.mp h
  rw [Bool.and_eq_true, Bool.and_eq_true] at h1
  exact ⟨q, hq, Nat.eq_of_beq_eq_true h1.1, Nat.eq_of_beq_eq_true h1.2.1, of_decide_eq_true h1.2.2⟩
theorem js_kc {i : Nat} (hF : jm_F p R s mid args c dC dI cA ad adV ids A m) (h : jm_kcT.any (fun q => Nat.beq q.1 (jm_mi m).1 && (Nat.beq q.2.1 i && decide (q.2.2.1 = z))) = true) : (Cond.constant (jm_cn (jm_mi m).1) i (Int32.ofInt z)).before args s = true := by
  obtain ⟨q, hq, h1, h2, h3⟩ := jm_any4 h
  have := jm_kc_ok q hq
  rw [h1, h2, h3] at this
  exact hF.2.2.2.2.1 _ (jm_in_g _ this rfl)
theorem js_ldc0 {i : Nat} (hF : jm_F p R s mid args c dC dI cA ad adV ids A m) (hrc : jm_rc m k = some (.ldc i, 0, z)) (h : w (k + 1, ls, .inl z :: st, M)) (hw : ∀ c', w c' → jm_G p l e R s mid args below meth c dC dI cA ad ids A m FQ gc gs scr c') : jm_G p l e R s mid args below meth c dC dI cA ad ids A m FQ gc gs scr (k, ls, st, M) := by
  have h2 : (jm_kcT.any (fun q => Nat.beq q.1 (jm_mi m).1 && (Nat.beq q.2.1 i && decide (q.2.2.1 = z))) && decide (-2147483648 ≤ z ∧ z ≤ 2147483647)) = true := (jm_nx hrc (by simp) rfl).2.2
  rw [Bool.and_eq_true] at h2
  refine js_push hF hrc (by simp) rfl (v := .inl z) (show -2147483648 ≤ z ∧ z ≤ 2147483647 from of_decide_eq_true h2.2) (fun hd _ JL H locs cells slots rest hW => ?_) (hw _ h)
  exact lv_ldc hF.1 hF.2.1 hF.2.2.2.1 (js_kc hF h2.1) hd hW
theorem js_ldcw {i : Nat} (hF : jm_F p R s mid args c dC dI cA ad adV ids A m) (hrc : jm_rc m k = some (.ldc_w i, a, z)) (h : jm_do wc w Q k ls M (jm_ef (.ldc_w i, a, z) k ls st M)) (hw : ∀ c', w c' → jm_G p l e R s mid args below meth c dC dI cA ad ids A m FQ gc gs scr c') : jm_G p l e R s mid args below meth c dC dI cA ad ids A m FQ gc gs scr (k, ls, st, M) := by
  have h2 : (jm_kcT.any (fun q => Nat.beq q.1 (jm_mi m).1 && (Nat.beq q.2.1 i && decide (q.2.2.1 = z))) && decide (-2147483648 ≤ z ∧ z ≤ 2147483647)) = true := (jm_nx hrc (by simp) rfl).2.2
  rw [Bool.and_eq_true] at h2
  refine js_push hF hrc (by simp) rfl (v := .inl z) (show -2147483648 ≤ z ∧ z ≤ 2147483647 from of_decide_eq_true h2.2) (fun hd _ JL H locs cells slots rest hW => ?_) (hw _ h)
  exact lv_ldcw hF.1 hF.2.1 hF.2.2.2.1 (js_kc hF h2.1) hd hW
theorem js_ldc2 {i : Nat} (hF : jm_F p R s mid args c dC dI cA ad adV ids A m) (hrc : jm_rc m k = some (.ldc2_w i, a, z)) (h : jm_do wc w Q k ls M (jm_ef (.ldc2_w i, a, z) k ls st M)) (hw : ∀ c', w c' → jm_G p l e R s mid args below meth c dC dI cA ad ids A m FQ gc gs scr c') : jm_G p l e R s mid args below meth c dC dI cA ad ids A m FQ gc gs scr (k, ls, st, M) := by
  have h2 : (jm_k2T.any (fun q => Nat.beq q.1 (jm_mi m).1 && (Nat.beq q.2.1 i && decide (q.2.2.1 = z))) && decide (-2147483648 ≤ z ∧ z ≤ 2147483647)) = true := (jm_nx hrc (by simp) rfl).2.2
  rw [Bool.and_eq_true] at h2
  refine js_push hF hrc (by simp) rfl (v := .inr (.inr z)) (show -2147483648 ≤ z ∧ z ≤ 2147483647 from of_decide_eq_true h2.2) (fun hd _ JL H locs cells slots rest hW => ?_) (hw _ h)
  obtain ⟨q, hq, h3, h4, h5⟩ := jm_any4 h2.1
  have h6 := jm_k2_ok q hq
  rw [h3, h4, h5] at h6
  exact lv_ldc2 hF.1 hF.2.1 hF.2.2.2.1 (hF.2.2.2.2.1 _ (jm_in_g _ h6 rfl)) hd hW
theorem js_ldcS {i sn : Nat} (hF : jm_F p R s mid args c dC dI cA ad adV ids A m) (hrc : jm_rc m k = some (.ldc i, sn + 1, z)) (hs : sn ≠ 99) (h : w (k + 1, ls, .inr (.inl (200 + sn)) :: st, M)) (hw : ∀ c', w c' → jm_G p l e R s mid args below meth c dC dI cA ad ids A m FQ gc gs scr c') : jm_G p l e R s mid args below meth c dC dI cA ad ids A m FQ gc gs scr (k, ls, st, M) := by
  have h2 : jm_ck2 m (.ldc i, sn + 1, z) = true := (jm_nx hrc (by simp) rfl).2.2
  have h3 : (Nat.beq (jm_mi m).1 7 && (Nat.blt sn 6 && Nat.beq i ([45, 64, 69, 75, 77, 79].getD sn 0))) = true := by
    unfold jm_ck2 at h2
    dsimp only at h2
    split at h2
    · rename_i q; exact absurd q (by omega)
    · rename_i q; exact absurd q (by omega)
    · rename_i _ s' _ q
      have hq : s' = sn := by omega
      rw [← hq]
      exact h2
  rw [Bool.and_eq_true, Bool.and_eq_true] at h3
  have h4 := Nat.eq_of_beq_eq_true h3.1
  have h5 : sn < 6 := Nat.le_of_ble_eq_true h3.2.1
  have h6 := Nat.eq_of_beq_eq_true h3.2.2
  refine js_push hF hrc (by simp) rfl (v := .inr (.inl (200 + sn))) (Or.inr (Or.inl ⟨by omega, by omega⟩)) (fun hd _ JL H locs cells slots rest hW => ?_) (hw _ h)
  have hown : s.vm.findClass RX7 = some mid.cls := by
    have := hF.2.2.2.1
    rw [h4] at this
    exact this
  have hR := hF.2.2.2.2.2.2.2.1.2.2.1 sn h5
  refine va_ldcS hF.1 hF.2.1 hown (q := ad (200 + sn)) (tx := jm_stx.getD sn "") ?_ hd hW
  rw [h6]
  exact hR
/-- a local is pushed -/
theorem js_ldI (hF : jm_F p R s mid args c dC dI cA ad adV ids A m) {i : Instr} {j : Nat} (hrc : jm_rc m k = some (i, a, z)) (hn : i ≠ .nop) (h1 : jm_ck1 m k (i, a, z) = Nat.beq (jm_bp m (k + 1)) (jm_bp m k + jm_len (i, a, z)))
    (row : decode (jm_b m) (jm_bp m k) = .ok (i, jm_len (i, a, z)) → ∀ (x : Int32) (JL : Array Slot) (H : Heap) (locs : List Loc) (cells slots : Nat) (rest : List Value), JL[j]? = some (.val (.int x)) → W p l e R s mid args below meth c H locs cells slots FQ (F0 mid (jm_bp m k + jm_len (i, a, z)) JL (.int x :: rest)) → W p l e R s mid args below meth c H locs cells slots FQ (F0 mid (jm_bp m k) JL rest))
    (h : jm_do wc w Q k ls M (jm_ldI k ls st M j)) (hw : ∀ c', w c' → jm_G p l e R s mid args below meth c dC dI cA ad ids A m FQ gc gs scr c') : jm_G p l e R s mid args below meth c dC dI cA ad ids A m FQ gc gs scr (k, ls, st, M) := by
  obtain ⟨hd, hp, -⟩ := jm_nx hrc hn h1
  unfold jm_ldI at h
  split at h
  · rename_i x hx
    refine js_go (fun JL hl h _ => jk_cons (hl.2.2 j _ hx).2.1 h) (fun JL H locs cells slots hl _ _ _ _ _ hW => ?_) (hw _ h)
    rw [hp] at hW
    exact row hd _ JL H locs cells slots _ (hl.2.2 j _ hx).1 hW
  · exact (jm_rs_do h).elim
theorem js_ldA (hF : jm_F p R s mid args c dC dI cA ad adV ids A m) {i : Instr} {j : Nat} (hrc : jm_rc m k = some (i, a, z)) (hn : i ≠ .nop) (h1 : jm_ck1 m k (i, a, z) = Nat.beq (jm_bp m (k + 1)) (jm_bp m k + jm_len (i, a, z)))
    (row : decode (jm_b m) (jm_bp m k) = .ok (i, jm_len (i, a, z)) → ∀ (x : Nat) (JL : Array Slot) (H : Heap) (locs : List Loc) (cells slots : Nat) (rest : List Value), JL[j]? = some (.val (.ref x)) → W p l e R s mid args below meth c H locs cells slots FQ (F0 mid (jm_bp m k + jm_len (i, a, z)) JL (.ref x :: rest)) → W p l e R s mid args below meth c H locs cells slots FQ (F0 mid (jm_bp m k) JL rest))
    (h : jm_do wc w Q k ls M (jm_ldA k ls st M j)) (hw : ∀ c', w c' → jm_G p l e R s mid args below meth c dC dI cA ad ids A m FQ gc gs scr c') : jm_G p l e R s mid args below meth c dC dI cA ad ids A m FQ gc gs scr (k, ls, st, M) := by
  obtain ⟨hd, hp, -⟩ := jm_nx hrc hn h1
  unfold jm_ldA at h
  split at h
  · rename_i x hx
    refine js_go (fun JL hl h _ => jk_cons (hl.2.2 j _ hx).2.1 h) (fun JL H locs cells slots hl _ _ _ _ _ hW => ?_) (hw _ h)
    rw [hp] at hW
    exact row hd _ JL H locs cells slots _ (hl.2.2 j _ hx).1 hW
  · exact (jm_rs_do h).elim
theorem js_ldL (hF : jm_F p R s mid args c dC dI cA ad adV ids A m) {i : Instr} {j : Nat} (hrc : jm_rc m k = some (i, a, z)) (hn : i ≠ .nop) (h1 : jm_ck1 m k (i, a, z) = Nat.beq (jm_bp m (k + 1)) (jm_bp m k + jm_len (i, a, z)))
    (row : decode (jm_b m) (jm_bp m k) = .ok (i, jm_len (i, a, z)) → ∀ (x : Int64) (JL : Array Slot) (H : Heap) (locs : List Loc) (cells slots : Nat) (rest : List Value), JL[j]? = some (.val (.long x)) → W p l e R s mid args below meth c H locs cells slots FQ (F0 mid (jm_bp m k + jm_len (i, a, z)) JL (.long x :: rest)) → W p l e R s mid args below meth c H locs cells slots FQ (F0 mid (jm_bp m k) JL rest))
    (h : jm_do wc w Q k ls M (jm_ldL k ls st M j)) (hw : ∀ c', w c' → jm_G p l e R s mid args below meth c dC dI cA ad ids A m FQ gc gs scr c') : jm_G p l e R s mid args below meth c dC dI cA ad ids A m FQ gc gs scr (k, ls, st, M) := by
  obtain ⟨hd, hp, -⟩ := jm_nx hrc hn h1
  unfold jm_ldL at h
  split at h
  · rename_i x hx
    refine js_go (fun JL hl h _ => jk_cons (hl.2.2 j _ hx).2.1 h) (fun JL H locs cells slots hl _ _ _ _ _ hW => ?_) (hw _ h)
    rw [hp] at hW
    exact row hd _ JL H locs cells slots _ (hl.2.2 j _ hx).1 hW
  · exact (jm_rs_do h).elim
/-- a local is written -/
theorem jm_al_in : ∀ (ls : jm_Ls) (j i : Nat) (v : jm_V), jm_lg ls i = some v → (j + i, jm_val ad v) ∈ jm_al ad j ls
  | [], _, _, _, h => nomatch h
  | none :: l, j, 0, v, h => nomatch h
  | some u :: l, j, 0, v, h => by
    have : u = v := Option.some.inj h
    subst this
    exact List.mem_cons_self
  | none :: l, j, i + 1, v, h => by
    have := jm_al_in l (j + 1) i v h
    rw [show j + 1 + i = j + (i + 1) by omega] at this
    exact this
  | some u :: l, j, i + 1, v, h => by
    have := jm_al_in l (j + 1) i v h
    rw [show j + 1 + i = j + (i + 1) by omega] at this
    exact List.mem_cons_of_mem _ this
theorem jm_al_of : ∀ (ls : jm_Ls) (j : Nat) (q : Nat × Value), q ∈ jm_al ad j ls → ∃ i v, jm_lg ls i = some v ∧ q = (j + i, jm_val ad v)
  | [], _, _, h => nomatch h
  | none :: l, j, q, h => by
    obtain ⟨i, v, h1, h2⟩ := jm_al_of l (j + 1) q h
    exact ⟨i + 1, v, h1, by rw [h2]; congr 1; omega⟩
  | some u :: l, j, q, h => by
    rcases List.mem_cons.mp h with rfl | h
    · exact ⟨0, u, rfl, rfl⟩
    · obtain ⟨i, v, h1, h2⟩ := jm_al_of l (j + 1) q h
      exact ⟨i + 1, v, h1, by rw [h2]; congr 1; omega⟩
theorem jm_lr_has {JL : Array Slot} (hl : jm_lr ad ids m ls JL) : lv_has JL (jm_mi m).2.2.2.1 (jm_al ad 0 ls) := ⟨hl.1, hl.2.1, fun q hq => by
  obtain ⟨i, v, h1, rfl⟩ := jm_al_of ls 0 q hq
  rw [Nat.zero_add]
  exact (hl.2.2 i v h1).1⟩
theorem jm_lr_set {JL JL' : Array Slot} {j : Nat} {v : jm_V} (hl : jm_lr ad ids m ls JL) (hm : m ≠ 140) (hv : jm_okv ids m v) (hc : ∀ x, v ≠ .inr (.inr x)) (h : lv_has JL' (jm_mi m).2.2.2.1 ((j, jm_val ad v) :: (jm_al ad 0 ls).filter (fun q => !(q.1 == j) && !(q.1 + 1 == j && q.2.category == 2)))) : jm_lr ad ids m (jm_ls ls j v) JL' := by
  refine ⟨h.1, h.2.1, fun i u hu => ?_⟩
  rcases jm_ls_get ls j v i u hu with ⟨rfl, rfl⟩ | ⟨h1, h2⟩
  · exact ⟨h.2.2 (i, jm_val ad u) List.mem_cons_self, hv, fun x hx => absurd hx (hc x)⟩
  · obtain ⟨g1, g2, g3⟩ := hl.2.2 i u h2
    have h3 := jm_al_in (ad := ad) ls 0 i u h2
    rw [Nat.zero_add] at h3
    have hcat : (jm_val ad u).category = 1 := by
      match u, g3 with
      | .inl x, _ => rfl
      | .inr (.inl x), _ => rfl
      | .inr (.inr x), g3 => exact absurd (g3 x rfl) hm
    refine ⟨h.2.2 (i, jm_val ad u) (List.mem_cons_of_mem _ (List.mem_filter.mpr ⟨h3, ?_⟩)), g2, g3⟩
    simp [h1, hcat]
theorem js_stI (hF : jm_F p R s mid args c dC dI cA ad adV ids A m) {i : Instr} {j : Nat} (hrc : jm_rc m k = some (i, a, z)) (hn : i ≠ .nop) (h1 : jm_ck1 m k (i, a, z) = Nat.beq (jm_bp m (k + 1)) (jm_bp m k + jm_len (i, a, z))) (h2 : jm_ck2 m (i, a, z) = (Nat.blt j (jm_mi m).2.2.2.1 && !(Nat.beq m 140)))
    (row : decode (jm_b m) (jm_bp m k) = .ok (i, jm_len (i, a, z)) → ∀ (x : Int32) (JL : Array Slot) (H : Heap) (locs : List Loc) (cells slots : Nat) (rest : List Value) (lv : List (Nat × Value)), lv_has JL (jm_mi m).2.2.2.1 lv → j < (jm_mi m).2.2.2.1 → (∀ JL' : Array Slot, lv_has JL' (jm_mi m).2.2.2.1 ((j, .int x) :: lv.filter (fun q => !(q.1 == j) && !(q.1 + 1 == j && q.2.category == 2))) → W p l e R s mid args below meth c H locs cells slots FQ (F0 mid (jm_bp m k + jm_len (i, a, z)) JL' rest)) → W p l e R s mid args below meth c H locs cells slots FQ (F0 mid (jm_bp m k) JL (.int x :: rest)))
    (h : jm_do wc w Q k ls M (jm_stI k ls st M j)) (hw : ∀ c', w c' → jm_G p l e R s mid args below meth c dC dI cA ad ids A m FQ gc gs scr c') : jm_G p l e R s mid args below meth c dC dI cA ad ids A m FQ gc gs scr (k, ls, st, M) := by
  obtain ⟨hd, hp, h3⟩ := jm_nx hrc hn h1
  rw [h2, Bool.and_eq_true] at h3
  have hj : j < (jm_mi m).2.2.2.1 := Nat.le_of_ble_eq_true h3.1
  have hm : m ≠ 140 := fun q => by
    have h4 := h3.2
    rw [q] at h4
    exact absurd h4 (by decide)
  unfold jm_stI at h
  split at h
  · rename_i x r
    have hG := hw _ h
    intro JL H locs g1 g2 g3 g4 g5 g6 g7 g8
    refine row hd _ JL H locs _ _ _ _ (jm_lr_has g1) hj (fun JL' hl' => ?_)
    have := hG JL' H locs (jm_lr_set g1 hm (v := .inl x) (jk_hd g2) (fun _ q => nomatch q) hl') (jk_tl g2) g3 g4 g5 g6 g7 g8
    dsimp only at this
    rw [hp] at this
    exact this
  · exact (jm_rs_do h).elim
theorem js_stA (hF : jm_F p R s mid args c dC dI cA ad adV ids A m) {i : Instr} {j : Nat} (hrc : jm_rc m k = some (i, a, z)) (hn : i ≠ .nop) (h1 : jm_ck1 m k (i, a, z) = Nat.beq (jm_bp m (k + 1)) (jm_bp m k + jm_len (i, a, z))) (h2 : jm_ck2 m (i, a, z) = (Nat.blt j (jm_mi m).2.2.2.1 && !(Nat.beq m 140)))
    (row : decode (jm_b m) (jm_bp m k) = .ok (i, jm_len (i, a, z)) → ∀ (x : Nat) (JL : Array Slot) (H : Heap) (locs : List Loc) (cells slots : Nat) (rest : List Value) (lv : List (Nat × Value)), lv_has JL (jm_mi m).2.2.2.1 lv → j < (jm_mi m).2.2.2.1 → (∀ JL' : Array Slot, lv_has JL' (jm_mi m).2.2.2.1 ((j, .ref x) :: lv.filter (fun q => !(q.1 == j) && !(q.1 + 1 == j && q.2.category == 2))) → W p l e R s mid args below meth c H locs cells slots FQ (F0 mid (jm_bp m k + jm_len (i, a, z)) JL' rest)) → W p l e R s mid args below meth c H locs cells slots FQ (F0 mid (jm_bp m k) JL (.ref x :: rest)))
    (h : jm_do wc w Q k ls M (jm_stA k ls st M j)) (hw : ∀ c', w c' → jm_G p l e R s mid args below meth c dC dI cA ad ids A m FQ gc gs scr c') : jm_G p l e R s mid args below meth c dC dI cA ad ids A m FQ gc gs scr (k, ls, st, M) := by
  obtain ⟨hd, hp, h3⟩ := jm_nx hrc hn h1
  rw [h2, Bool.and_eq_true] at h3
  have hj : j < (jm_mi m).2.2.2.1 := Nat.le_of_ble_eq_true h3.1
  have hm : m ≠ 140 := fun q => by
    have h4 := h3.2
    rw [q] at h4
    exact absurd h4 (by decide)
  unfold jm_stA at h
  split at h
  · rename_i x r
    have hG := hw _ h
    intro JL H locs g1 g2 g3 g4 g5 g6 g7 g8
    refine row hd _ JL H locs _ _ _ _ (jm_lr_has g1) hj (fun JL' hl' => ?_)
    have := hG JL' H locs (jm_lr_set g1 hm (v := .inr (.inl x)) (jk_hd g2) (fun _ q => nomatch q) hl') (jk_tl g2) g3 g4 g5 g6 g7 g8
    dsimp only at this
    rw [hp] at this
    exact this
  · exact (jm_rs_do h).elim
theorem js_iinc {j : Nat} {n : Int} (hF : jm_F p R s mid args c dC dI cA ad adV ids A m) (hrc : jm_rc m k = some (.iinc j n, a, z)) (h : jm_do wc w Q k ls M (jm_ef (.iinc j n, a, z) k ls st M)) (hw : ∀ c', w c' → jm_G p l e R s mid args below meth c dC dI cA ad ids A m FQ gc gs scr c') : jm_G p l e R s mid args below meth c dC dI cA ad ids A m FQ gc gs scr (k, ls, st, M) := by
  obtain ⟨hd, hp, h3⟩ := jm_nx hrc (by simp) rfl
  have h3 : (Nat.blt j (jm_mi m).2.2.2.1 && (!(Nat.beq m 140) && decide (n = z))) = true := h3
  rw [Bool.and_eq_true, Bool.and_eq_true] at h3
  have hj : j < (jm_mi m).2.2.2.1 := Nat.le_of_ble_eq_true h3.1
  have hm : m ≠ 140 := fun q => by
    have h4 := h3.2.1
    rw [q] at h4
    exact absurd h4 (by decide)
  have hz : n = z := of_decide_eq_true h3.2.2
  subst hz
  have h : jm_do wc w Q k ls M (match jm_lg ls j with
    | some (.inl x) => jm_gs [jm_in (x + n)] (k + 1) (jm_ls ls j (.inl (x + n))) st M
    | _ => jm_bad M) := h
  split at h
  · rename_i x hx
    have hG := hw _ h.2
    intro JL H locs g1 g2 g3 g4 g5 g6 g7 g8
    obtain ⟨q, hq⟩ := List.getElem?_of_mem (jm_al_in (ad := ad) ls 0 j _ hx)
    rw [Nat.zero_add] at hq
    refine lv_iinc hF.1 hF.2.1 hd (jm_lr_has g1) (k := q) hq (v := Int32.ofInt (x + n)) (Int32.ofInt_add _ _).symm hj rfl (fun JL' hl' => ?_)
    have := hG JL' H locs (jm_lr_set g1 hm (v := .inl (x + n)) h.1 (fun _ q => nomatch q) hl') g2 g3 g4 g5 g6 g7 g8
    dsimp only at this
    rw [hp] at this
    exact this
  · exact (jm_rs_do h).elim
end JS2
