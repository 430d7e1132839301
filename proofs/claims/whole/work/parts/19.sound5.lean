/-! CALLS, ENDS, AND THE WHOLE -/
def jm_by : Nat → MethodName
  | 900 => arraycopyName
  | 901 => yJ0_length_8abf5
  | 902 => yJ0_charAt_5068e
  | 903 => yX10_spelt
  | 904 => yJ9_max_7cf53
  | 905 => yJ9_min_7cf53
  | 910 => yL_around
  | 911 => yL_distance
  | 912 => yL_potential
  | 913 => yL_on
  | 914 => yL_left
  | _ => yL_excess
set_option maxRecDepth 100000 in
theorem jm_mb_ok : ∀ q ∈ jm_mbT, lw_tbl[q.2.2.2]? = some (.methodLink (jm_cn q.1) q.2.1 (jm_by q.2.2.1)) := by decide +kernel
set_option maxRecDepth 100000 in
theorem jm_t_copy : lw_tbl[694]? = some (.native arraycopyName) ∧ lw_tbl[693]? = some (.static arraycopyName) ∧ lw_tbl[123]? = some (.initialized "java/lang/System") := by decide +kernel
set_option maxRecDepth 100000 in
theorem jm_t_max : lw_tbl[658]? = some (.static Lib.Math.max.name) ∧ lw_tbl[659]? = some (.code Lib.Math.max.name Lib.Math.max.code 2 (some .int)) ∧ lw_tbl[122]? = some (.initialized "java/lang/Math") ∧ yJ9_max_7cf53 = Lib.Math.max.name := by decide +kernel
set_option maxRecDepth 100000 in
theorem jm_t_min : lw_tbl[871]? = some (.static Lib.Math.min.name) ∧ lw_tbl[872]? = some (.code Lib.Math.min.name Lib.Math.min.code 2 (some .int)) ∧ yJ9_min_7cf53 = Lib.Math.min.name := by decide +kernel
theorem jm_kd_ok : ∀ m, m < 217 → (jm_mi m).2.2.2.2.2.2 ≤ 1 ∧ ((jm_mi m).2.2.2.2.2.2 = 0 ↔ jm_r m = none) := by decide +kernel
theorem jm_any3 {i x cl : Nat} {L : List (Nat × Nat × Nat × Nat)} (h : L.any (fun q => Nat.beq q.1 cl && (Nat.beq q.2.1 i && Nat.beq q.2.2.1 x)) = true) : ∃ q ∈ L, q.1 = cl ∧ q.2.1 = i ∧ q.2.2.1 = x := by
  obtain ⟨q, hq, h1⟩ := List.any_eq_true.mp h
  rw [Bool.and_eq_true, Bool.and_eq_true] at h1
  exact ⟨q, hq, Nat.eq_of_beq_eq_true h1.1, Nat.eq_of_beq_eq_true h1.2.1, Nat.eq_of_beq_eq_true h1.2.2⟩
theorem jm_ft_sum {ad : Nat → Nat} : ∀ (r : List jm_V) (n : Nat), jm_ft r n = true → ((r.map (jm_val ad)).map fun v => v.category).sum ≤ n
  | [], _, _ => Nat.zero_le _
  | .inr (.inr x) :: r, n + 2, h => by
    have := jm_ft_sum (ad := ad) r n h
    simp only [List.map_cons, List.sum_cons]
    show 2 + _ ≤ n + 2
    omega
  | .inl x :: r, n + 1, h => by
    have := jm_ft_sum (ad := ad) r n h
    simp only [List.map_cons, List.sum_cons]
    show 1 + _ ≤ n + 1
    omega
  | .inr (.inl x) :: r, n + 1, h => by
    have := jm_ft_sum (ad := ad) r n h
    simp only [List.map_cons, List.sum_cons]
    show 1 + _ ≤ n + 1
    omega
  | .inr (.inr x) :: r, 1, h => nomatch h
  | .inr (.inr x) :: r, 0, h => nomatch h
  | .inl x :: r, 0, h => nomatch h
  | .inr (.inl x) :: r, 0, h => nomatch h
theorem jm_tk_of : ∀ (n : Nat) (st acc as rest : List jm_V), jm_tk n st acc = some (as, rest) → ∃ b, as = b ++ acc ∧ st = b.reverse ++ rest ∧ b.length = n
  | 0, st, acc, as, rest, h => by
    have h1 : (acc, st) = (as, rest) := Option.some.inj h
    cases h1
    exact ⟨[], rfl, rfl, rfl⟩
  | n + 1, [], acc, as, rest, h => nomatch h
  | n + 1, v :: st, acc, as, rest, h => by
    obtain ⟨b, h1, h2, h3⟩ := jm_tk_of n st (v :: acc) as rest h
    refine ⟨b ++ [v], by rw [h1]; simp, by rw [h2]; simp, by simp [h3]⟩
/-- what an end leaves on the stack -/
def jm_rs (ad : Nat → Nat) : Option jm_V → List Value
  | some (.inl x) => [.int (Int32.ofInt x)]
  | _ => []
/-- a place where a method ends -/
def jm_end (m k : Nat) : Option jm_V → Prop
  | none => decode (jm_b m) (jm_bp m k) = .ok (.return_, 1) ∧ jm_r m = none
  | some (.inl x) => decode (jm_b m) (jm_bp m k) = .ok (.ireturn, 1) ∧ jm_in x ∧ (jm_r m = some .int ∨ (jm_r m = some .boolean ∧ 0 ≤ x ∧ x ≤ 1))
  | some (.inr _) => ∃ (i a : Nat) (z : Int), jm_rc m k = some (.new i, a, z)
def jm_Fin (p : Program) (l : Launch) (e : Env) (R : Room) (s : State) (mid : MethodId) (args : Array Value) (below : List Frame) (meth : Method) (c : Code) (dC : Nat → ClassId) (dI : Nat → Nat → Nat) (cA : Nat → ClassId) (ad : Nat → Nat) (ids : List Nat) (A : Nat → Prop) (m : Nat) (FQ : State → Prop) (gc gs : Int) (Q : jm_Q) : Prop :=
  ∀ (r : Option jm_V) (M' : jm_Mem) (k' : Nat) (JL : Array Slot) (H : Heap) (locs : List Loc), Q r M' → jm_end m k' r → jm_okM M' → JL.size = (jm_mi m).2.2.2.1 → va_P (dC, dI) vwCl (jm_wd cA ad ids M') H → va_S A s.heap H locs → gc ≤ M' 999 0 → gs ≤ M' 999 1 → W p l e R s mid args below meth c H locs (M' 999 0 - gc).toNat (M' 999 1 - gs).toNat FQ (F0 mid (jm_bp m k') JL (jm_rs ad r))
/-- soundness at n -/
def jm_S (l : Launch) (dC : Nat → ClassId) (dI : Nat → Nat → Nat) (cA : Nat → ClassId) (ad adV : Nat → Nat) (ids : List Nat) (n : Nat) : Prop :=
  ∀ (m : Nat) (cf : jm_Cfg) (Q : jm_Q), jm_wp n m cf Q → ∀ (p : Program) (e : Env) (R : Room) (s : State) (mid : MethodId) (args : Array Value) (below : List Frame) (meth : Method) (c : Code) (A : Nat → Prop) (FQ : State → Prop) (gc gs : Int) (scr : Int → Int), jm_F p R s mid args c dC dI cA ad adV ids A m → (m = 216 → jm_scr ad A s scr) → (∀ r M', Q r M' → (M' 999 0 - gc).toNat ≤ R.cells ∧ (M' 999 1 - gs).toNat ≤ R.slots) → jm_Fin p l e R s mid args below meth c dC dI cA ad ids A m FQ gc gs Q → jm_G p l e R s mid args below meth c dC dI cA ad ids A m FQ gc gs scr cf
def jm_ws (m : Nat) : List Cond := Cond.code (jm_y m) (jm_b m) (jm_mi m).2.2.2.1 (jm_r m) :: jm_g
theorem jm_pad_at {ad : Nat → Nat} : ∀ (as : List jm_V) (n j i : Nat) (v : jm_V), jm_lg (jm_pad as n) i = some v → (j + i, jm_val ad v) ∈ lv_args j (as.map (jm_val ad)) ∧ v ∈ as
  | [], n, j, i, v, h => by
    exfalso
    have : ∀ (n i : Nat), jm_lg (List.replicate n (none : Option jm_V)) i = none := by
      intro n
      induction n with
      | zero => intro i; rfl
      | succ n ih =>
        intro i
        cases i with
        | zero => rfl
        | succ i => exact ih i
    have h2 : jm_lg (List.replicate n (none : Option jm_V)) i = some v := h
    rw [this] at h2
    cases h2
  | .inr (.inr x) :: as, 0, j, i, v, h => nomatch h
  | .inr (.inr x) :: as, 1, j, 0, v, h => by
    have : (.inr (.inr x) : jm_V) = v := Option.some.inj h
    subst this
    exact ⟨List.mem_cons_self, List.mem_cons_self⟩
  | .inr (.inr x) :: as, 1, j, i + 1, v, h => by
    exfalso
    have h : jm_lg (jm_pad as 0) i = some v := h
    cases as with
    | nil => exact nomatch h
    | cons b as =>
      match b, h with
      | .inl y, h => exact nomatch h
      | .inr (.inl y), h => exact nomatch h
      | .inr (.inr y), h => exact nomatch h
  | .inr (.inr x) :: as, n + 2, j, 0, v, h => by
    have : (.inr (.inr x) : jm_V) = v := Option.some.inj h
    subst this
    exact ⟨List.mem_cons_self, List.mem_cons_self⟩
  | .inr (.inr x) :: as, n + 2, j, 1, v, h => nomatch h
  | .inr (.inr x) :: as, n + 2, j, i + 2, v, h => by
    obtain ⟨h1, h2⟩ := jm_pad_at (ad := ad) as n (j + 2) i v h
    refine ⟨List.mem_cons_of_mem _ ?_, List.mem_cons_of_mem _ h2⟩
    rw [show j + (i + 2) = j + 2 + i by omega]
    exact h1
  | .inl x :: as, 0, j, i, v, h => nomatch h
  | .inl x :: as, n + 1, j, 0, v, h => by
    have : (.inl x : jm_V) = v := Option.some.inj h
    subst this
    exact ⟨List.mem_cons_self, List.mem_cons_self⟩
  | .inl x :: as, n + 1, j, i + 1, v, h => by
    obtain ⟨h1, h2⟩ := jm_pad_at (ad := ad) as n (j + 1) i v h
    refine ⟨List.mem_cons_of_mem _ ?_, List.mem_cons_of_mem _ h2⟩
    rw [show j + (i + 1) = j + 1 + i by omega]
    exact h1
  | .inr (.inl x) :: as, 0, j, i, v, h => nomatch h
  | .inr (.inl x) :: as, n + 1, j, 0, v, h => by
    have : (.inr (.inl x) : jm_V) = v := Option.some.inj h
    subst this
    exact ⟨List.mem_cons_self, List.mem_cons_self⟩
  | .inr (.inl x) :: as, n + 1, j, i + 1, v, h => by
    obtain ⟨h1, h2⟩ := jm_pad_at (ad := ad) as n (j + 1) i v h
    refine ⟨List.mem_cons_of_mem _ ?_, List.mem_cons_of_mem _ h2⟩
    rw [show j + (i + 1) = j + 1 + i by omega]
    exact h1
theorem jm_sl_len {ad : Nat → Nat} : ∀ (as : List jm_V), (lg_sl (as.map (jm_val ad))).length = jm_cat as
  | [] => rfl
  | .inl x :: as => by
    have := jm_sl_len (ad := ad) as
    simp only [lg_sl, List.map_cons, List.flatMap_cons, List.length_append] at this ⊢
    rw [this]
    show 1 + jm_cat as = jm_cat as + 1
    omega
  | .inr (.inl x) :: as => by
    have := jm_sl_len (ad := ad) as
    simp only [lg_sl, List.map_cons, List.flatMap_cons, List.length_append] at this ⊢
    rw [this]
    show 1 + jm_cat as = jm_cat as + 1
    omega
  | .inr (.inr x) :: as => by
    have := jm_sl_len (ad := ad) as
    simp only [lg_sl, List.map_cons, List.flatMap_cons, List.length_append] at this ⊢
    rw [this]
    show 2 + jm_cat as = jm_cat as + 2
    omega
/-- a method's contract out of soundness: from this memory to that one -/
theorem js_met {l : Launch} {dC : Nat → ClassId} {dI : Nat → Nat → Nat} {cA : Nat → ClassId} {ad adV : Nat → Nat} {ids : List Nat} {n : Nat} (hS : jm_S l dC dI cA ad adV ids n) {mi : Nat} {as : List jm_V} {M M1 : jm_Mem} {r1 : Option jm_V} (sz : Nat) (hmi : mi < 216) (hwp : jm_wp n mi (0, jm_pad as (jm_mi mi).2.2.2.1, [], M) (fun r M' => r = r1 ∧ M' = M1)) (hr1 : r1 = none ∨ ∃ x, r1 = some (.inl x)) (has : ∀ v ∈ as, jm_okv ids mi v) (hnl : ∀ v ∈ as, ∀ x, v = .inr (.inr x) → mi = 140) (hcat : jm_cat as ≤ (jm_mi mi).2.2.2.1) (hM : jm_okM M) {A0 : Nat → Prop} (wk : jm_wok ad ids A0) :
    Met l (jm_y mi) (jm_ws mi) ({ frames := (jm_mi mi).2.2.2.2.1, cells := (M1 999 0 - M 999 0).toNat, slots := (M1 999 1 - M 999 1).toNat, locals := (jm_mi mi).2.2.2.2.2.1 }) (va_Pc (as.map (jm_val ad)) (fun U => U.heap.size = sz ∧ va_P (dC, dI) vwCl (jm_wd cA ad ids M) U.heap ∧ jm_ctx dC dI cA ad adV (va_A (jm_wd cA ad ids M) sz) U U.heap)) (fun _ s0 oc t => (oc = .returned (r1.map (jm_val ad)) ∧ va_P (dC, dI) vwCl (jm_wd cA ad ids M1) t.heap ∧ jm_okM M1 ∧ ∀ x, r1 = some (.inl x) → jm_in x) ∧ va_F (va_A (jm_wd cA ad ids M) sz) s0 t) (M1 999 0 - M 999 0).toNat (M1 999 1 - M 999 1).toNat (va_A (jm_wd cA ad ids M) sz) := by
  obtain ⟨n1, n2, -, -, -, n6⟩ := jm_mn_ok mi hmi
  refine Met.ofW (cc := jm_b mi) (maxL := (jm_mi mi).2.2.2.1) (ret := jm_r mi) n6 rfl ?_
  intro p e s mid args below meth c s₁ B hml hv
  obtain ⟨rfl, hsz, hP, hC⟩ := hv
  have hr := B.returns
  have hts := atoms_spec (ws := jm_ws mi) B.pre
  have hown : s.vm.findClass (jm_y mi).cls = some mid.cls := findClass_of_methodNamed B.named
  have hlocks := B.notSynchronized
  subst hsz
  have hF : jm_F p ({ frames := (jm_mi mi).2.2.2.2.1, cells := (M1 999 0 - M 999 0).toNat, slots := (M1 999 1 - M 999 1).toNat, locals := (jm_mi mi).2.2.2.2.2.1 }) s mid (as.map (jm_val ad)).toArray c dC dI cA ad adV ids (va_A (jm_wd cA ad ids M) s.heap.size) mi := by
    refine ⟨B.exec, B.bytes, hml, by rw [← n2]; exact hown, fun w h => hts w (List.mem_cons_of_mem _ h), Nat.le_refl _, Nat.le_refl _, hC, ⟨wk.1, wk.2.1, wk.2.2.1, fun d hd => ?_, wk.2.2.2.2⟩, fun q h => Or.inr h⟩
    obtain ⟨q0, -, hq⟩ := jm_wd_at (cA := cA) (ad := ad) (M := M) hd
    exact Or.inl ⟨q0, _, hq⟩
  have hl := lv_entry (as.map (jm_val ad)) (n := (jm_mi mi).2.2.2.1) (by rw [jm_sl_len]; exact hcat)
  rw [lg_entry_eq]
  generalize (lg_sl (as.map (jm_val ad)) ++ List.replicate ((jm_mi mi).2.2.2.1 - (lg_sl (as.map (jm_val ad))).length) Slot.unset).toArray = JL at hl ⊢
  have hmz : mi ≠ 216 := by omega
  have hG := hS mi _ _ hwp p e ({ frames := (jm_mi mi).2.2.2.2.1, cells := (M1 999 0 - M 999 0).toNat, slots := (M1 999 1 - M 999 1).toNat, locals := (jm_mi mi).2.2.2.2.2.1 }) s mid _ below meth c (va_A (jm_wd cA ad ids M) s.heap.size) (MQ below (fun _ s0 oc t => (oc = .returned (r1.map (jm_val ad)) ∧ va_P (dC, dI) vwCl (jm_wd cA ad ids M1) t.heap ∧ jm_okM M1 ∧ ∀ x, r1 = some (.inl x) → jm_in x) ∧ va_F (va_A (jm_wd cA ad ids M) s.heap.size) s0 t) (as.map (jm_val ad)).toArray s (M1 999 0 - M 999 0).toNat (M1 999 1 - M 999 1).toNat (va_A (jm_wd cA ad ids M) s.heap.size)) (M 999 0) (M 999 1) (fun _ => 0) hF (fun q => absurd q hmz) (fun r M' h => by rw [h.2]; exact ⟨Nat.le_refl _, Nat.le_refl _⟩) (by
      intro r M' k' JL' H locs hq he hoM hsz' hP' hS' hg1 hg2
      obtain ⟨rfl, rfl⟩ := hq
      rcases hr1 with h0 | ⟨x, h0⟩
      · subst h0
        exact W.vret B.exec B.bytes (hr.trans he.2) (fun t ht hW => ⟨⟨rfl, by rw [ht]; exact hP', hoM, fun x h => nomatch h⟩, hS'.F ht⟩) hS'.2.2 he.1
      · subst h0
        obtain ⟨hdd, hin, hty⟩ := he
        rcases hty with hty | ⟨hty, b0, b1⟩
        · exact W.iret B.exec B.bytes (hr.trans hty) (fun t ht hW => ⟨⟨rfl, by rw [ht]; exact hP', hoM, fun y h => by cases h; exact hin⟩, hS'.F ht⟩) hS'.2.2 hdd
        · exact W.zret B.exec B.bytes (hr.trans hty) (jn_narZ b0 b1).1 (fun t ht hW => ⟨⟨rfl, by rw [ht]; exact hP', hoM, fun y h => by cases h; exact hin⟩, hS'.F ht⟩) hS'.2.2 hdd)
  have := hG JL s.heap [] ⟨hl.1, hl.2.1, fun i v hv => ?_⟩ (fun v hv => nomatch hv) hM hP va_S.rf (Int.le_refl _) (Int.le_refl _) (fun q => absurd q hmz)
  · dsimp only at this
    rw [Int.sub_self, Int.sub_self] at this
    have hbp : jm_bp mi 0 = 0 := by
      have : ∀ q, q < 216 → jm_bp q 0 = 0 := by decide +kernel
      exact this mi hmi
    rw [hbp] at this
    exact this
  · obtain ⟨h1, h2⟩ := jm_pad_at (ad := ad) as _ 0 i v hv
    rw [Nat.zero_add] at h1
    exact ⟨hl.2.2 _ h1, has v h2, fun x hx => hnl v h2 x hx⟩
