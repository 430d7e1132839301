theorem jw_t1 : ∀ q ∈ jm_mbT, 910 ≤ q.2.2.1 → q.1 = 50 := by decide +kernel
theorem jw_t2 : ∀ m, m < 217 → (jm_mi m).1 = 50 → m = 216 := by decide +kernel
theorem jw_m {m k idx x : Nat} {z : Int} (hrc : jm_rc m k = some (.invokestatic idx, x, z)) (hx : 910 ≤ x) : m = 216 := by
  obtain ⟨hd, hp, h2⟩ := jm_nx hrc (by simp) rfl
  have h2 : jm_ck2 m (.invokestatic idx, x, z) = true := h2
  unfold jm_ck2 at h2
  dsimp only at h2
  have hb : Nat.blt x 216 = false := by
    cases hq : Nat.blt x 216 with
    | false => rfl
    | true => exact absurd (show x < 216 from Nat.le_of_ble_eq_true hq) (by omega)
  rw [hb] at h2
  dsimp only at h2
  rw [Bool.and_eq_true, Bool.and_eq_true] at h2
  obtain ⟨q, hq, e1, e2, e3⟩ := jm_any3 h2.1
  have h50 := jw_t1 q hq (by omega)
  rcases Nat.lt_or_ge m 217 with hm | hm
  · exact jw_t2 m hm (by omega)
  · exfalso
    have hn : ∀ {α : Type} (l : List α) (n : Nat), l.length ≤ n → jm_nth l n = none := by
      intro α l
      induction l with
      | nil => intro n _; rfl
      | cons a l ih =>
        intro n hn
        cases n with
        | zero => exact absurd hn (by simp)
        | succ n => exact ih n (by simpa using hn)
    unfold jm_rc at hrc
    rw [hn jm_cdT m (by exact hm)] at hrc
    cases hrc
section JWG
variable {p : Program} {l : Launch} {e : Env} {R : Room} {s : State} {mid : MethodId} {args : Array Value} {below : List Frame} {meth : Method} {c : Code}
variable {dC : Nat → ClassId} {dI : Nat → Nat → Nat} {cA : Nat → ClassId} {ad adV : Nat → Nat} {ids : List Nat} {A : Nat → Prop} {m : Nat} {FQ : State → Prop} {gc gs : Int} {scr : Int → Int}
variable {k : Nat} {ls : jm_Ls} {M : jm_Mem} {z : Int}
theorem jw_go {idx x maxL rf rl : Nat} {cc : ByteArray} {hh : List (Nat × Nat × Nat × Nat)} {as : List jm_V} {M2 : jm_Mem} {rr : Int} (hF : jm_F p R s mid args c dC dI cA ad adV ids A m) (hm : m = 216) (hrc : jm_rc m k = some (.invokestatic idx, x, z)) (hx : 910 ≤ x) (hnext : jm_G p l e R s mid args below meth c dC dI cA ad ids A m FQ gc gs scr (k + 1, ls, [.inl rr], M2)) (hrr : jm_in rr) (hle : jm_le M M2) (hcap : (M2 999 0 - gc).toNat ≤ R.cells ∧ (M2 999 1 - gs).toNat ≤ R.slots)
    (hw1 : Cond.static (jm_by x) ∈ jm_g) (hw2 : Cond.codeWith (jm_by x) cc maxL (some .int) hh ∈ jm_g) (hw3 : Cond.initialized (jm_by x).cls ∈ jm_g) (hdsc : (jm_by x).cls ≠ "java/lang/invoke/MethodHandle" ∧ (jm_by x).cls ≠ "java/lang/invoke/VarHandle" ∧ (parseMethodDescriptor (jm_by x).desc).map (fun d => d.parameters.length) = some (as.length + 1)) (hR : rf + 1 ≤ 10 ∧ 8 + (maxL + 11) + rl ≤ 253)
    (hmet : ∀ sz, jm_okM M → (∀ v ∈ as, jm_okv ids m v) → 94 ∈ ids → Met l (jm_by x) (Cond.codeWith (jm_by x) cc maxL (some .int) hh :: jm_g) ({ frames := rf, cells := (M2 999 0 - M 999 0).toNat, slots := (M2 999 1 - M 999 1).toNat, locals := rl }) (va_Pc (as.map (jm_val ad) ++ [Value.ref (ad 94)]) (jw_pre dC dI cA ad adV ids M sz)) (jw_post dC dI cA ad ids M2 rr (va_A (jm_wd cA ad ids M) sz)) (M2 999 0 - M 999 0).toNat (M2 999 1 - M 999 1).toNat (va_A (jm_wd cA ad ids M) sz)) : jm_G p l e R s mid args below meth c dC dI cA ad ids A m FQ gc gs scr (k, ls, .inr (.inl 94) :: as.reverse, M) := by
  obtain ⟨hd, hp, hlink, -, -⟩ := jm_ck_bs hF hrc (by omega)
  have hf10 : 10 ≤ R.frames := by
    have := hF.2.2.2.2.2.1
    rw [hm] at this
    exact this
  have hl253 : 253 ≤ R.locals := by
    have := hF.2.2.2.2.2.2.1
    rw [hm] at this
    exact this
  intro JL H locs g1 g2 g3 g4 g5 g6 g7 g8
  have h94 : 94 ∈ ids := jk_ids (jk_hd g2) (by decide)
  have hall : ∀ v ∈ as, jm_okv ids m v := fun v hv => g2 v (List.mem_cons_of_mem _ (List.mem_reverse.mpr hv))
  have hbud : (M 999 0 - gc).toNat + (M2 999 0 - M 999 0).toNat = (M2 999 0 - gc).toNat ∧ (M 999 1 - gs).toNat + (M2 999 1 - M 999 1).toNat = (M2 999 1 - gs).toNat := by
    have q1 := hle.1
    have q2 := hle.2.1
    dsimp only at g6 g7
    omega
  have hgood : GoodIn jm_g (va_wsS (jm_cn (jm_mi m).1) idx (jm_by x) (Cond.codeWith (jm_by x) cc maxL (some .int) hh :: jm_g)) := by
    intro w hw
    unfold va_wsS at hw
    have hin : w ∈ jm_g := by
      rcases List.mem_append.mp hw with hw | hw
      · simp only [List.mem_cons, List.not_mem_nil, or_false] at hw
        rcases hw with rfl | rfl | rfl
        · exact hlink
        · exact hw1
        · exact hw3
      · rcases List.mem_cons.mp hw with rfl | hw
        · exact hw2
        · exact hw
    exact jm_g_good w hin
  have hfree : ∀ q, va_A (jm_wd cA ad ids M) H.size q → A q := by
    intro q hq
    rcases hq with ⟨j, E, hj⟩ | hq
    · exact (jm_wd_D (cA := cA) M hF.2.2.2.2.2.2.2.2.1).2 j (q, E) hj
    · exact hF.2.2.2.2.2.2.2.2.2 q (Nat.le_trans g5.1 hq)
  dsimp only
  rw [show ((.inr (.inl 94) :: as.reverse : List jm_V).map (jm_val ad)) = (as.map (jm_val ad) ++ [Value.ref (ad 94)]).reverse ++ [] by simp [jm_val]]
  refine js_after (vx_runSW (As := as.map (jm_val ad) ++ [Value.ref (ad 94)]) (rest := []) ⟨hF.1, hF.2.1, hF.2.2.1, hF.2.2.2.1, hF.2.2.2.2.1⟩ (hmet H.size g3 hall h94) (vx_cwSW (as.length + 1) hF.2.2.2.2.1 hgood rfl rfl rfl hdsc ⟨by show rf + 1 ≤ R.frames; omega, by show 8 + (maxL + 11) + rl ≤ R.locals; omega⟩) ⟨fun a9 U g9 mk q => ⟨q.1, q.2.1, q.2.2.1, jm_ctx_blind q.2.2.2⟩, fun U hU hW => ⟨rfl, jm_PcOk hF g4 g5 U hU hW⟩⟩ (g := F0 mid (jm_bp m k) JL ((as.map (jm_val ad) ++ [Value.ref (ad 94)]).reverse ++ [])) rfl (by simp) g1.1 rfl (lv_room (Nat.zero_le _)) hd (by rw [hbud.1, hbud.2]; exact hcap)) g5 (fun q _ hq => hfree q hq) hfree (r1 := some (.int (Int32.ofInt rr))) (B := fun H1 => va_P (dC, dI) vwCl (jm_wd cA ad ids M2) H1 ∧ jm_okM M2) (fun s0 v t hs0 hq => ?_) (fun H1 locs1 hB hS1 => ?_)
  · obtain ⟨⟨q1, q2, q3⟩, q5, q6⟩ := hq
    rw [hs0] at q5 q6
    cases q1
    exact ⟨rfl, ⟨q2, q3⟩, q5, q6⟩
  · obtain ⟨b1, b2⟩ := hB
    have hG := hnext JL H1 locs1 g1 (jk_cons (v := .inl rr) hrr (fun v hv => nomatch hv)) b2 b1 hS1 (by dsimp only; have := hle.1; dsimp only at g6; omega) (by dsimp only; have := hle.2.1; dsimp only at g7; omega) (fun q => by dsimp only; rw [hle.2.2]; exact g8 q)
    dsimp only at hG
    rw [hbud.1, hbud.2, ← hp]
    exact hG
end JWG
