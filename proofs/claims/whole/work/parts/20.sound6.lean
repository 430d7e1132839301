theorem jm_ctx_to {dC : Nat → ClassId} {dI : Nat → Nat → Nat} {cA : Nat → ClassId} {ad adV : Nat → Nat} {A A1 : Nat → Prop} {s U : State} {H H1 : Heap} (h : jm_ctx dC dI cA ad adV A s H) (hW : s.WarmedH U.vm) (hk : ∀ q : Nat, q < H.size → ¬ A q → H1[q]? = H[q]?) (hn : ∀ q, A1 q → A q) : jm_ctx dC dI cA ad adV A1 U H1 := by
  obtain ⟨h1, h2, h3, h4, h5, h6, h7, h8, h9⟩ := h
  exact ⟨va_K.moved hW.alike h1, ((h2.moved hW.alike).kept hk).narrow hn, fun i hi => (h3 i hi).warm hW, fun i hi => by
    obtain ⟨x, hx⟩ := h4 i hi
    exact ⟨x, hx.warm hW⟩, ((h5.moved hW.alike).kept hk).narrow hn, ((h6.moved hW.alike).kept hk).narrow hn, ((h7.moved hW.alike).kept hk).narrow hn, ((h8.moved hW.alike).kept hk).narrow hn, jx_K_to hW.alike h9⟩
theorem jm_ctx_blind {dC : Nat → ClassId} {dI : Nat → Nat → Nat} {cA : Nat → ClassId} {ad adV : Nat → Nat} {A : Nat → Prop} {U : State} {g : JFrame} {mk : MethodId} {x : Array Value} (h : jm_ctx dC dI cA ad adV A U U.heap) : jm_ctx dC dI cA ad adV A (U.calling g mk x) (U.calling g mk x).heap := by
  obtain ⟨h1, h2, h3, h4, h5, h6, h7, h8, h9⟩ := h
  have al : U.vm.Alike (U.calling g mk x).vm := Vm.Alike.refl U.vm
  exact ⟨va_K.moved al h1, h2.moved al, fun i hi => vk_R.same (u := U) rfl (h3 i hi), fun i hi => by
    obtain ⟨y, hy⟩ := h4 i hi
    exact ⟨y, vk_R.same (u := U) rfl hy⟩, h5.moved al, h6.moved al, h7.moved al, h8.moved al, jx_K_to al h9⟩
section JS6
variable {p : Program} {l : Launch} {e : Env} {R : Room} {s : State} {mid : MethodId} {args : Array Value} {below : List Frame} {meth : Method} {c : Code}
variable {dC : Nat → ClassId} {dI : Nat → Nat → Nat} {cA : Nat → ClassId} {ad adV : Nat → Nat} {ids : List Nat} {A : Nat → Prop} {m : Nat} {FQ : State → Prop} {gc gs : Int} {scr : Int → Int}
variable {wc : Nat → List jm_V → jm_Mem → jm_Q → Prop} {w : jm_Cfg → Prop} {Q : jm_Q} {k : Nat} {ls : jm_Ls} {st : List jm_V} {M : jm_Mem} {a : Nat} {z : Int}
/-- behind a call: what came back, and the world as the callee left it -/
theorem js_after {H H0 : Heap} {locs : List Loc} {cells slots mc ms pc : Nat} {JL : Array Slot} {st0 rest : List Value} {Qa : State → Outcome → State → Prop} {free A0 A1 : Nat → Prop} {r1 : Option Value} {B : Heap → Prop} (hr : va_Run p l e R s mid args below meth c H locs cells slots mc ms (F0 mid pc JL st0) rest Qa free) (hS : va_S A0 H0 H locs) (hA : ∀ q, q < H.size → A1 q → A0 q) (hf : ∀ q, free q → A0 q)
    (hq : ∀ (s0 : State) (v : Option Value) (t : State), s0.heap = H → Qa s0 (.returned v) t → v = r1 ∧ B t.heap ∧ H.size ≤ t.heap.size ∧ ∀ q : Nat, q < H.size → ¬ A1 q → t.heap[q]? = H[q]?)
    (kk : ∀ (H1 : Heap) (locs1 : List Loc), B H1 → va_S A0 H0 H1 locs1 → W p l e R s mid args below meth c H1 locs1 (cells + mc) (slots + ms) FQ (F0 mid (pc + 3) JL (r1.toList ++ rest))) : W p l e R s mid args below meth c H locs cells slots FQ (F0 mid pc JL st0) := by
  intro T hT X
  obtain ⟨v, st₀, t, T', L, h0, X', hL, e1, e2, hq1, st1⟩ := hr T hT X
  obtain ⟨rfl, hB, hz, hk⟩ := hq st₀ v t h0 hq1
  obtain ⟨t2, a1, b1⟩ := kk T'.heap (locs ++ L) (by rw [e1]; exact hB) ⟨Nat.le_trans hS.1 (by rw [e1]; exact hz), fun q h1 h2 => by rw [e1, hk q (Nat.lt_of_lt_of_le h1 hS.1) (fun z => h2 (hA q (Nat.lt_of_lt_of_le h1 hS.1) z))]; exact hS.2.1 q h1 h2, fun q hq => by
      rcases List.mem_append.mp hq with h | h
      · exact hS.2.2 q h
      · exact hf _ (hL q h)⟩ T' rfl X'
  exact ⟨t2, st1 t2 a1, b1⟩
theorem jm_nla_of : ∀ (as : List jm_V), jm_nla as = true → ∀ v ∈ as, ∀ x, v ≠ .inr (.inr x)
  | [], _, v, hv, _ => nomatch hv
  | .inl y :: as, h, v, hv, x => by
    rcases List.mem_cons.mp hv with rfl | hv
    · exact fun q => nomatch q
    · exact jm_nla_of as h v hv x
  | .inr (.inl y) :: as, h, v, hv, x => by
    rcases List.mem_cons.mp hv with rfl | hv
    · exact fun q => nomatch q
    · exact jm_nla_of as h v hv x
  | .inr (.inr y) :: as, h, _, _, _ => nomatch h
theorem jm_n98_of : ∀ (as : List jm_V), jm_n98 as = true → ∀ v ∈ as, v ≠ .inr (.inl 998)
  | [], _, v, hv => nomatch hv
  | .inl y :: as, h, v, hv => by
    rcases List.mem_cons.mp hv with rfl | hv
    · exact fun q => nomatch q
    · exact jm_n98_of as h v hv
  | .inr (.inr y) :: as, h, v, hv => by
    rcases List.mem_cons.mp hv with rfl | hv
    · exact fun q => nomatch q
    · exact jm_n98_of as h v hv
  | .inr (.inl y) :: as, h, v, hv => by
    have h1 : (match Nat.beq y 998 with
      | true => false
      | false => jm_n98 as) = true := h
    cases hy : Nat.beq y 998 with
    | true => rw [hy] at h1; cases h1
    | false =>
      rw [hy] at h1
      rcases List.mem_cons.mp hv with rfl | hv
      · intro q
        cases q
        exact absurd hy (by decide)
      · exact jm_n98_of as h1 v hv
theorem jm_alo_of {mi : Nat} {as : List jm_V} (h : jm_alo mi as = true) : (∀ v ∈ as, v ≠ .inr (.inl 998)) ∧ jm_cat as ≤ (jm_mi mi).2.2.2.1 ∧ (∀ v ∈ as, ∀ x, v = .inr (.inr x) → mi = 140) := by
  unfold jm_alo at h
  split at h
  · rename_i h1 h2
    refine ⟨jm_n98_of as h1, Nat.le_of_ble_eq_true h2, ?_⟩
    split at h
    · rename_i h3
      exact fun _ _ _ _ => Nat.eq_of_beq_eq_true h3
    · exact fun v hv x hx => absurd hx (jm_nla_of as h v hv x)
  · cases h
theorem jm_call_of {mi v : Nat} (h : jm_do wc w Q k ls M (jm_call mi v st M)) : ∃ as rest, jm_tk (jm_mi mi).2.2.1 st [] = some (as, rest) ∧ (jm_mi mi).2.1 = v ∧ jm_ft rest 8 = true ∧ jm_alo mi as = true ∧ (v ≠ 0 → ∃ c0 as', as = .inr (.inl c0) :: as' ∧ Nat.beq (jm_sh c0).1 (10 + (jm_mi mi).1) = true) ∧ wc mi as M (jm_k (fun st' M' => w (k + 1, ls, st', M')) rest (jm_mi mi).2.2.2.2.2.2) := by
  unfold jm_call at h
  split at h
  · rename_i as rest hv ht
    have hv := Nat.eq_of_beq_eq_true hv
    split at h
    · rename_i h1 h2
      split at h
      · exact ⟨as, rest, ht, hv, h1, h2, fun q => absurd rfl q, h⟩
      · unfold jm_callv at h
        split at h
        · rename_i c0 as'
          split at h
          · rename_i h3
            exact ⟨_, rest, ht, hv, h1, h2, fun _ => ⟨c0, as', rfl, h3⟩, h⟩
          · exact (jm_rs_do h).elim
        · exact (jm_rs_do h).elim
    · exact (jm_rs_do h).elim
  · exact (jm_rs_do h).elim
/-- what a call of a method of the machine gives -/
theorem js_callM {n : Nat} (hSn : jm_S l dC dI cA ad adV ids n) (hF : jm_F p R s mid args c dC dI cA ad adV ids A m) {mi : Nat} (hmi : mi < 216) {as rest : List jm_V} (halo : jm_alo mi as = true) (has : ∀ v ∈ as, jm_okv ids m v) (hM : jm_okM M) {i : Instr} (hrc : jm_rc m k = some (i, mi, z)) (hp : jm_bp m (k + 1) = jm_bp m k + 3)
    (h : jm_wp n mi (0, jm_pad as (jm_mi mi).2.2.2.1, [], M) (jm_k (fun st' M' => jm_wp n m (k + 1, ls, st', M') Q) rest (jm_mi mi).2.2.2.2.2.2))
    (hw : ∀ c', jm_wp n m c' Q → jm_G p l e R s mid args below meth c dC dI cA ad ids A m FQ gc gs scr c') (hcap : ∀ r M', Q r M' → (M' 999 0 - gc).toNat ≤ R.cells ∧ (M' 999 1 - gs).toNat ≤ R.slots) {JL : Array Slot} {H : Heap} {locs : List Loc} (h1 : jm_lr ad ids m ls JL) (hrest : ∀ v ∈ rest, jm_okv ids m v) (h4 : va_P (dC, dI) vwCl (jm_wd cA ad ids M) H) (h5 : va_S A s.heap H locs) (h6 : gc ≤ M 999 0) (h7 : gs ≤ M 999 1) (h8 : m = 216 → M 998 = scr)
    (go : ∀ (M1 : jm_Mem) (r1 : Option jm_V), (M 999 0 - gc).toNat + (M1 999 0 - M 999 0).toNat ≤ R.cells ∧ (M 999 1 - gs).toNat + (M1 999 1 - M 999 1).toNat ≤ R.slots → Met l (jm_y mi) (jm_ws mi) ({ frames := (jm_mi mi).2.2.2.2.1, cells := (M1 999 0 - M 999 0).toNat, slots := (M1 999 1 - M 999 1).toNat, locals := (jm_mi mi).2.2.2.2.2.1 }) (va_Pc (as.map (jm_val ad)) (fun U => U.heap.size = H.size ∧ va_P (dC, dI) vwCl (jm_wd cA ad ids M) U.heap ∧ jm_ctx dC dI cA ad adV (va_A (jm_wd cA ad ids M) H.size) U U.heap)) (fun _ s0 oc t => (oc = .returned (r1.map (jm_val ad)) ∧ va_P (dC, dI) vwCl (jm_wd cA ad ids M1) t.heap ∧ jm_okM M1 ∧ ∀ x, r1 = some (.inl x) → jm_in x) ∧ va_F (va_A (jm_wd cA ad ids M) H.size) s0 t) (M1 999 0 - M 999 0).toNat (M1 999 1 - M 999 1).toNat (va_A (jm_wd cA ad ids M) H.size) →
      va_Run p l e R s mid args below meth c H locs (M 999 0 - gc).toNat (M 999 1 - gs).toNat (M1 999 0 - M 999 0).toNat (M1 999 1 - M 999 1).toNat (F0 mid (jm_bp m k) JL ((as.map (jm_val ad)).reverse ++ rest.map (jm_val ad))) (rest.map (jm_val ad)) (fun s0 oc t => (oc = .returned (r1.map (jm_val ad)) ∧ va_P (dC, dI) vwCl (jm_wd cA ad ids M1) t.heap ∧ jm_okM M1 ∧ ∀ x, r1 = some (.inl x) → jm_in x) ∧ va_F (va_A (jm_wd cA ad ids M) H.size) s0 t) (va_A (jm_wd cA ad ids M) H.size)) :
    W p l e R s mid args below meth c H locs (M 999 0 - gc).toNat (M 999 1 - gs).toNat FQ (F0 mid (jm_bp m k) JL ((as.map (jm_val ad)).reverse ++ rest.map (jm_val ad))) := by
  obtain ⟨a1, a2, a3⟩ := jm_alo_of halo
  obtain ⟨r1, M1, hk, hdet⟩ := jm_wp_det _ _ _ _ h
  have hwp : jm_wp n mi (0, jm_pad as (jm_mi mi).2.2.2.1, [], M) (fun r M' => r = r1 ∧ M' = M1) := hdet n (Nat.le_refl _) _ ⟨rfl, rfl⟩
  obtain ⟨r2, M2, ⟨e1, e2⟩, hle⟩ := jm_wp_le _ _ _ _ hwp
  subst e1; subst e2
  have hle : jm_le M M2 := hle
  have has' : ∀ v ∈ as, jm_okv ids mi v := by
    intro v hv
    have := has v hv
    have h98 := a1 v hv
    match v, this, h98 with
    | .inl x, q, _ => exact q
    | .inr (.inr x), q, _ => exact q
    | .inr (.inl x), q, h98 =>
      rcases q with q | q | q
      · exact Or.inl q
      · exact Or.inr (Or.inl q)
      · exact absurd (by rw [q.1]) h98
  have hkd := (jm_kd_ok mi (by omega)).1
  -- what came back, and the run behind it
  have hback : ∃ st', (r2 = none ∧ st' = rest ∨ ∃ x, r2 = some (.inl x) ∧ st' = .inl x :: rest) ∧ jm_wp n m (k + 1, ls, st', M2) Q := by
    generalize (jm_mi mi).2.2.2.2.2.2 = kd at hk hkd
    match kd, hkd, hk with
    | 0, _, hk => exact ⟨rest, Or.inl ⟨hk.1, rfl⟩, hk.2⟩
    | 1, _, hk =>
      obtain ⟨x, q1, q2⟩ := hk
      exact ⟨_, Or.inr ⟨x, q1, rfl⟩, q2⟩
    | kd + 2, q, _ => exact absurd q (by omega)
  obtain ⟨st', hst', hnext⟩ := hback
  obtain ⟨rf, Mf, hQf, hlef⟩ := jm_wp_le _ _ _ _ hnext
  have hlef : jm_le M2 Mf := hlef
  obtain ⟨c1, c2⟩ := hcap rf Mf hQf
  have hbud : (M 999 0 - gc).toNat + (M2 999 0 - M 999 0).toNat = (M2 999 0 - gc).toNat ∧ (M 999 1 - gs).toNat + (M2 999 1 - M 999 1).toNat = (M2 999 1 - gs).toNat := by
    have q1 := hle.1
    have q2 := hle.2.1
    omega
  have hlim : (M 999 0 - gc).toNat + (M2 999 0 - M 999 0).toNat ≤ R.cells ∧ (M 999 1 - gs).toNat + (M2 999 1 - M 999 1).toNat ≤ R.slots := by
    have q1 := hlef.1
    have q2 := hlef.2.1
    have q3 := hle.1
    have q4 := hle.2.1
    omega
  have hmet := js_met hSn H.size hmi hwp (hst'.elim (fun q => Or.inl q.1) (fun q => by obtain ⟨x, q1, -⟩ := q; exact Or.inr ⟨x, q1⟩)) has' a3 a2 hM hF.2.2.2.2.2.2.2.2.1
  have hfree : ∀ q, va_A (jm_wd cA ad ids M) H.size q → A q := by
    intro q hq
    rcases hq with ⟨j, E, hj⟩ | hq
    · exact (jm_wd_D (cA := cA) M hF.2.2.2.2.2.2.2.2.1).2 j (q, E) hj
    · exact hF.2.2.2.2.2.2.2.2.2 q (Nat.le_trans h5.1 hq)
  refine js_after (go M2 r2 hlim hmet) h5 (fun q _ hq => hfree q hq) hfree (r1 := r2.map (jm_val ad)) (B := fun H1 => va_P (dC, dI) vwCl (jm_wd cA ad ids M2) H1 ∧ jm_okM M2 ∧ ∀ x, r2 = some (.inl x) → jm_in x) (fun s0 v t hs0 hq => ?_) (fun H1 locs1 hB hS1 => ?_)
  · obtain ⟨⟨q1, q2, q3, q4⟩, q5, q6⟩ := hq
    rw [hs0] at q5 q6
    cases q1
    exact ⟨rfl, ⟨q2, q3, q4⟩, q5, q6⟩
  · obtain ⟨b1, b2, b3⟩ := hB
    have hG := hw _ hnext JL H1 locs1 h1 ?_ b2 b1 hS1 (by dsimp only; have := hle.1; omega) (by dsimp only; have := hle.2.1; omega) (fun q => by dsimp only; rw [hle.2.2]; exact h8 q)
    · dsimp only at hG
      rw [hbud.1, hbud.2, ← hp]
      rcases hst' with ⟨q1, q2⟩ | ⟨x, q1, q2⟩
      · subst q1; subst q2
        exact hG
      · subst q1; subst q2
        exact hG
    · dsimp only
      rcases hst' with ⟨q1, q2⟩ | ⟨x, q1, q2⟩
      · subst q2; exact hrest
      · subst q2; exact jk_cons (b3 x q1) hrest
theorem jm_PcOk {H : Heap} {locs : List Loc} (hF : jm_F p R s mid args c dC dI cA ad adV ids A m) (h4 : va_P (dC, dI) vwCl (jm_wd cA ad ids M) H) (h5 : va_S A s.heap H locs) : ∀ U : State, U.heap = H → s.WarmedH U.vm → (U.heap.size = H.size ∧ va_P (dC, dI) vwCl (jm_wd cA ad ids M) U.heap ∧ jm_ctx dC dI cA ad adV (va_A (jm_wd cA ad ids M) H.size) U U.heap) := by
  intro U hU hW
  refine ⟨by rw [hU], by rw [hU]; exact h4, ?_⟩
  rw [hU]
  refine jm_ctx_to hF.2.2.2.2.2.2.2.1 hW h5.2.1 (fun q hq => ?_)
  rcases hq with ⟨j, E, hj⟩ | hq
  · exact (jm_wd_D (cA := cA) M hF.2.2.2.2.2.2.2.2.1).2 j (q, E) hj
  · exact hF.2.2.2.2.2.2.2.2.2 q (Nat.le_trans h5.1 hq)
theorem jm_ck_call {i : Instr} {x idx : Nat} (hF : jm_F p R s mid args c dC dI cA ad adV ids A m) (h2 : (jm_mlT.any (fun q => Nat.beq q.1 (jm_mi m).1 && (Nat.beq q.2.1 idx && Nat.beq q.2.2.1 x)) && (Nat.ble ((jm_mi x).2.2.2.2.1 + 1) (jm_mi m).2.2.2.2.1 && Nat.ble (8 + ((jm_mi x).2.2.2.1 + 11) + (jm_mi x).2.2.2.2.2.1) (jm_mi m).2.2.2.2.2.1)) = true) : Cond.methodLink (jm_cn (jm_mi m).1) idx (jm_y x) ∈ jm_g ∧ (jm_mi x).2.2.2.2.1 + 1 ≤ R.frames ∧ 8 + ((jm_mi x).2.2.2.1 + 11) + (jm_mi x).2.2.2.2.2.1 ≤ R.locals := by
  rw [Bool.and_eq_true, Bool.and_eq_true] at h2
  obtain ⟨q, hq, e1, e2, e3⟩ := jm_any3 h2.1
  have g := jm_ml_ok q hq
  rw [e1, e2, e3] at g
  have b1 := Nat.le_of_ble_eq_true h2.2.1
  have b2 := Nat.le_of_ble_eq_true h2.2.2
  have f1 := hF.2.2.2.2.2.1
  have f2 := hF.2.2.2.2.2.2.1
  exact ⟨jm_in_g _ g rfl, by omega, by omega⟩
theorem js_vcall {n idx : Nat} (hSn : jm_S l dC dI cA ad adV ids n) (hF : jm_F p R s mid args c dC dI cA ad adV ids A m) (hmi : a < 216) (hrc : jm_rc m k = some (.invokevirtual idx, a, z)) (h : jm_do (fun mi as M Q => jm_wp n mi (0, jm_pad as (jm_mi mi).2.2.2.1, [], M) Q) (fun c' => jm_wp n m c' Q) Q k ls M (jm_call a 1 st M)) (hw : ∀ c', jm_wp n m c' Q → jm_G p l e R s mid args below meth c dC dI cA ad ids A m FQ gc gs scr c') (hcap : ∀ r M', Q r M' → (M' 999 0 - gc).toNat ≤ R.cells ∧ (M' 999 1 - gs).toNat ≤ R.slots) : jm_G p l e R s mid args below meth c dC dI cA ad ids A m FQ gc gs scr (k, ls, st, M) := by
  obtain ⟨hd, hp, h2⟩ := jm_nx hrc (by simp) rfl
  have h2 : jm_ck2 m (.invokevirtual idx, a, z) = true := h2
  unfold jm_ck2 at h2
  dsimp only at h2
  rw [show Nat.blt a 216 = true from Nat.ble_eq_true_of_le hmi] at h2
  dsimp only at h2
  obtain ⟨hlink, hfr, hlo⟩ := jm_ck_call (i := .nop) hF h2
  obtain ⟨as, rest, htk, hv, hft, halo, hobj, hcall⟩ := jm_call_of h
  obtain ⟨c0, as', rfl, hsh⟩ := hobj (by decide)
  obtain ⟨b, e1, e2, e3⟩ := jm_tk_of _ _ _ _ _ htk
  rw [List.append_nil] at e1
  subst e1
  subst e2
  obtain ⟨n1, n2, n3, n4, n5, n6⟩ := jm_mn_ok a hmi
  obtain ⟨v1, v2⟩ := jm_mv_ok a hmi hv
  intro JL H locs g1 g2 g3 g4 g5 g6 g7 g8
  have hall : ∀ v ∈ (.inr (.inl c0) :: as' : List jm_V), jm_okv ids m v := fun v hv => g2 v (List.mem_append_left _ (List.mem_reverse.mpr hv))
  have hrest : ∀ v ∈ rest, jm_okv ids m v := fun v hv => g2 v (List.mem_append_right _ hv)
  dsimp only
  rw [List.map_append, List.map_reverse]
  refine js_callM hSn hF hmi halo hall g3 hrc hp hcall hw hcap g1 hrest g4 g5 g6 g7 g8 (fun M1 r1 hlim hmet => ?_)
  have hcl : c0 < 95 := by
    rcases Nat.lt_or_ge c0 95 with q | q
    · exact q
    · rw [jm_sh_out c0 q] at hsh
      exfalso
      have e9 := Nat.eq_of_beq_eq_true hsh
      have : ∀ q, q < 216 → (jm_mi q).1 ≠ 89 := by decide +kernel
      exact this a hmi (by omega)
  obtain ⟨o1, o2, o3, o4⟩ := jm_sh_obj hsh hcl
  obtain ⟨q0, -, hq⟩ := jm_wd_at (cA := cA) (ad := ad) (M := M) (jk_ids (jk_hd hall) hcl)
  rw [o4] at hq
  have hgood : GoodIn jm_g (wsV (jm_cn (jm_mi m).1) idx (jm_y a).cls (jm_y a) (jm_ws a)) := by
    intro w hw
    unfold wsV at hw
    have hin : w ∈ jm_g := by
      rcases List.mem_append.mp hw with hw | hw
      · simp only [List.mem_cons, List.not_mem_nil, or_false] at hw
        rcases hw with rfl | rfl | rfl | rfl
        · exact hlink
        · exact jm_in_g _ v1 rfl
        · exact jm_in_g _ v2 rfl
        · exact jm_in_g _ n1 rfl
      · rcases List.mem_cons.mp hw with rfl | hw
        · exact jm_mc_ok hmi
        · exact hw
    exact jm_g_good w hin
  have hlen : (parseMethodDescriptor (jm_y a).desc).map (fun d => d.parameters.length) = some as'.length := by
    cases hd2 : parseMethodDescriptor (jm_y a).desc with
    | none => rw [hd2] at n5; cases n5
    | some d =>
      rw [hd2] at n5
      have n5 : d.parameters.length + (jm_mi a).2.1 = (jm_mi a).2.2.1 := Option.some.inj n5
      rw [hv, ← e3] at n5
      show some d.parameters.length = some as'.length
      congr 1
      simp only [List.length_cons] at n5
      omega
  have hrecv : ∃ cellB : Cell, H[ad c0]? = some cellB ∧ cellB.vm.isStatics = false ∧ s.vm.findClass (jm_y a).cls = some cellB.cls := by
    have := va_recv hF.2.2.2.2.2.2.2.1.1 g4 (jm_cl_ok _ o1) hq
    rw [n2]
    exact this
  exact va_runV (As := as'.map (jm_val ad)) (rest := rest.map (jm_val ad)) (b := ad c0) ⟨hF.1, hF.2.1, hF.2.2.1, hF.2.2.2.1, hF.2.2.2.2.1⟩ hmet (cwV (ret := jm_r a) (bytes := jm_b a) (maxL := (jm_mi a).2.2.2.1) (R := R) (C := (jm_y a).cls) as'.length hF.2.2.2.2.1 hgood rfl rfl rfl ⟨rfl, n3, n4, hlen⟩ ⟨hfr, hlo⟩) ⟨fun a9 U g9 mk q => ⟨q.1, q.2.1, q.2.2.1, jm_ctx_blind q.2.2.2⟩, hrecv, fun U hU hW => ⟨rfl, jm_PcOk hF g4 g5 U hU hW⟩⟩ (g := F0 mid (jm_bp m k) JL (((.inr (.inl c0) :: as' : List jm_V).map (jm_val ad)).reverse ++ rest.map (jm_val ad))) rfl (by rw [List.length_map]) g1.1 (by simp [jm_val]) (lv_room (jm_ft_sum rest 8 hft)) hd hlim
theorem js_scall {n idx : Nat} (hSn : jm_S l dC dI cA ad adV ids n) (hF : jm_F p R s mid args c dC dI cA ad adV ids A m) (hmi : a < 216) (hrc : jm_rc m k = some (.invokestatic idx, a, z)) (h : jm_do (fun mi as M Q => jm_wp n mi (0, jm_pad as (jm_mi mi).2.2.2.1, [], M) Q) (fun c' => jm_wp n m c' Q) Q k ls M (jm_call a 0 st M)) (hw : ∀ c', jm_wp n m c' Q → jm_G p l e R s mid args below meth c dC dI cA ad ids A m FQ gc gs scr c') (hcap : ∀ r M', Q r M' → (M' 999 0 - gc).toNat ≤ R.cells ∧ (M' 999 1 - gs).toNat ≤ R.slots) : jm_G p l e R s mid args below meth c dC dI cA ad ids A m FQ gc gs scr (k, ls, st, M) := by
  obtain ⟨hd, hp, h2⟩ := jm_nx hrc (by simp) rfl
  have h2 : jm_ck2 m (.invokestatic idx, a, z) = true := h2
  unfold jm_ck2 at h2
  dsimp only at h2
  rw [show Nat.blt a 216 = true from Nat.ble_eq_true_of_le hmi] at h2
  dsimp only at h2
  obtain ⟨hlink, hfr, hlo⟩ := jm_ck_call (i := .nop) hF h2
  obtain ⟨as, rest, htk, hv, hft, halo, -, hcall⟩ := jm_call_of h
  obtain ⟨b, e1, e2, e3⟩ := jm_tk_of _ _ _ _ _ htk
  rw [List.append_nil] at e1
  subst e1
  subst e2
  obtain ⟨n1, n2, n3, n4, n5, n6⟩ := jm_mn_ok a hmi
  have v1 := jm_ms_ok a hmi hv
  intro JL H locs g1 g2 g3 g4 g5 g6 g7 g8
  have hall : ∀ v ∈ as, jm_okv ids m v := fun v hv => g2 v (List.mem_append_left _ (List.mem_reverse.mpr hv))
  have hrest : ∀ v ∈ rest, jm_okv ids m v := fun v hv => g2 v (List.mem_append_right _ hv)
  dsimp only
  rw [List.map_append, List.map_reverse]
  refine js_callM hSn hF hmi halo hall g3 hrc hp hcall hw hcap g1 hrest g4 g5 g6 g7 g8 (fun M1 r1 hlim hmet => ?_)
  have hgood : GoodIn jm_g (va_wsS (jm_cn (jm_mi m).1) idx (jm_y a) (jm_ws a)) := by
    intro w hw
    unfold va_wsS at hw
    have hin : w ∈ jm_g := by
      rcases List.mem_append.mp hw with hw | hw
      · simp only [List.mem_cons, List.not_mem_nil, or_false] at hw
        rcases hw with rfl | rfl | rfl
        · exact hlink
        · exact jm_in_g _ v1 rfl
        · exact jm_in_g _ n1 rfl
      · rcases List.mem_cons.mp hw with rfl | hw
        · exact jm_mc_ok hmi
        · exact hw
    exact jm_g_good w hin
  have hlen : (parseMethodDescriptor (jm_y a).desc).map (fun d => d.parameters.length) = some as.length := by
    cases hd2 : parseMethodDescriptor (jm_y a).desc with
    | none => rw [hd2] at n5; cases n5
    | some d =>
      rw [hd2] at n5
      have n5 : d.parameters.length + (jm_mi a).2.1 = (jm_mi a).2.2.1 := Option.some.inj n5
      rw [hv, ← e3] at n5
      show some d.parameters.length = some as.length
      congr 1
  exact va_runS (As := as.map (jm_val ad)) (rest := rest.map (jm_val ad)) ⟨hF.1, hF.2.1, hF.2.2.1, hF.2.2.2.1, hF.2.2.2.2.1⟩ hmet (va_cwS (ret := jm_r a) (bytes := jm_b a) (maxL := (jm_mi a).2.2.2.1) (R := R) as.length hF.2.2.2.2.1 hgood rfl rfl rfl ⟨n3, n4, hlen⟩ ⟨hfr, hlo⟩) ⟨fun a9 U g9 mk q => ⟨q.1, q.2.1, q.2.2.1, jm_ctx_blind q.2.2.2⟩, fun U hU hW => ⟨rfl, jm_PcOk hF g4 g5 U hU hW⟩⟩ (g := F0 mid (jm_bp m k) JL ((as.map (jm_val ad)).reverse ++ rest.map (jm_val ad))) rfl (by rw [List.length_map]) g1.1 rfl (lv_room (jm_ft_sum rest 8 hft)) hd hlim
end JS6
