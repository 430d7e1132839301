/-- the messages of what is thrown are never run through -/
theorem jm_noldc {m k i : Nat} {z : Int} (h : jm_rc m k = some (.ldc i, 99 + 1, z)) : False := by
  have h2 : jm_ck2 m (.ldc i, 100, z) = true := (jm_nx (a := 100) h (by simp) rfl).2.2
  exact Bool.noConfusion (show false = true from h2)
theorem jm_stat_num {k mi : Nat} {ls : jm_Ls} {st : List jm_V} {M : jm_Mem} {wc : Nat → List jm_V → jm_Mem → jm_Q → Prop} {w : jm_Cfg → Prop} {Q : jm_Q} (h : jm_do wc w Q k ls M (jm_stat k mi ls st M)) : mi = 900 ∨ mi = 903 ∨ mi = 904 ∨ mi = 905 ∨ mi = 910 ∨ mi = 911 ∨ mi = 912 ∨ mi = 913 ∨ mi = 914 ∨ mi = 915 ∨ jm_do wc w Q k ls M (jm_call mi 0 st M) := by
  unfold jm_stat at h
  split at h
  all_goals first
    | exact Or.inl rfl
    | exact Or.inr (Or.inl rfl)
    | exact Or.inr (Or.inr (Or.inl rfl))
    | exact Or.inr (Or.inr (Or.inr (Or.inl rfl)))
    | exact Or.inr (Or.inr (Or.inr (Or.inr (Or.inl rfl))))
    | exact Or.inr (Or.inr (Or.inr (Or.inr (Or.inr (Or.inl rfl)))))
    | exact Or.inr (Or.inr (Or.inr (Or.inr (Or.inr (Or.inr (Or.inl rfl))))))
    | exact Or.inr (Or.inr (Or.inr (Or.inr (Or.inr (Or.inr (Or.inr (Or.inl rfl)))))))
    | exact Or.inr (Or.inr (Or.inr (Or.inr (Or.inr (Or.inr (Or.inr (Or.inr (Or.inl rfl))))))))
    | exact Or.inr (Or.inr (Or.inr (Or.inr (Or.inr (Or.inr (Or.inr (Or.inr (Or.inr (Or.inl rfl)))))))))
    | exact Or.inr (Or.inr (Or.inr (Or.inr (Or.inr (Or.inr (Or.inr (Or.inr (Or.inr (Or.inr h)))))))))
theorem jm_virt_num {k mi : Nat} {ls : jm_Ls} {st : List jm_V} {M : jm_Mem} {wc : Nat → List jm_V → jm_Mem → jm_Q → Prop} {w : jm_Cfg → Prop} {Q : jm_Q} (h : jm_do wc w Q k ls M (jm_virt k mi ls st M)) : mi = 901 ∨ mi = 902 ∨ jm_do wc w Q k ls M (jm_call mi 1 st M) := by
  unfold jm_virt at h
  split at h
  all_goals first
    | exact Or.inl rfl
    | exact Or.inr (Or.inl rfl)
    | exact Or.inr (Or.inr h)
section JS9
variable {p : Program} {l : Launch} {e : Env} {R : Room} {s : State} {mid : MethodId} {args : Array Value} {below : List Frame} {meth : Method} {c : Code}
variable {dC : Nat → ClassId} {dI : Nat → Nat → Nat} {cA : Nat → ClassId} {ad adV : Nat → Nat} {ids : List Nat} {A : Nat → Prop} {m : Nat} {FQ : State → Prop} {gc gs : Int} {scr : Int → Int}
variable {Q : jm_Q} {k : Nat} {ls : jm_Ls} {st : List jm_V} {M : jm_Mem} {a : Nat} {z : Int}
theorem js_stat {n idx : Nat} (hl : l.stackTraces = false) (hSn : jm_S l dC dI cA ad adV ids n) (hF : jm_F p R s mid args c dC dI cA ad adV ids A m) (hrc : jm_rc m k = some (.invokestatic idx, a, z)) (h : jm_do (fun mi as M Q => jm_wp n mi (0, jm_pad as (jm_mi mi).2.2.2.1, [], M) Q) (fun c' => jm_wp n m c' Q) Q k ls M (jm_stat k a ls st M)) (hw : ∀ c', jm_wp n m c' Q → jm_G p l e R s mid args below meth c dC dI cA ad ids A m FQ gc gs scr c') (hcap : ∀ r M', Q r M' → (M' 999 0 - gc).toNat ≤ R.cells ∧ (M' 999 1 - gs).toNat ≤ R.slots) : jm_G p l e R s mid args below meth c dC dI cA ad ids A m FQ gc gs scr (k, ls, st, M) := by
  have wr1 : ∀ {x mi : Nat}, jm_do (fun mi as M Q => jm_wp n mi (0, jm_pad as (jm_mi mi).2.2.2.1, [], M) Q) (fun c' => jm_wp n m c' Q) Q k ls M (jm_wr1 mi st M) → ∃ y, st = .inr (.inl 94) :: ([.inr (.inl 0), .inl y] : List jm_V).reverse ∧ jm_wp n mi (0, jm_pad [.inr (.inl 0), .inl y] (jm_mi mi).2.2.2.1, [], M) (jm_k (fun st' M' => jm_wp n m (k + 1, ls, st', M') Q) [] 2) := by
    intro x mi h
    unfold jm_wr1 at h
    split at h
    · exact ⟨_, rfl, h⟩
    · exact (jm_rs_do h).elim
  have wr2 : ∀ {x mi : Nat}, jm_do (fun mi as M Q => jm_wp n mi (0, jm_pad as (jm_mi mi).2.2.2.1, [], M) Q) (fun c' => jm_wp n m c' Q) Q k ls M (jm_wr2 mi st M) → ∃ y y', st = .inr (.inl 94) :: ([.inr (.inl 0), .inl y, .inl y'] : List jm_V).reverse ∧ jm_wp n mi (0, jm_pad [.inr (.inl 0), .inl y, .inl y'] (jm_mi mi).2.2.2.1, [], M) (jm_k (fun st' M' => jm_wp n m (k + 1, ls, st', M') Q) [] 2) := by
    intro x mi h
    unfold jm_wr2 at h
    split at h
    · exact ⟨_, _, rfl, h⟩
    · exact (jm_rs_do h).elim
  rcases jm_stat_num h with rfl | rfl | rfl | rfl | rfl | rfl | rfl | rfl | rfl | rfl | hc
  · have hx : jm_do (fun mi as M Q => jm_wp n mi (0, jm_pad as (jm_mi mi).2.2.2.1, [], M) Q) (fun c' => jm_wp n m c' Q) Q k ls M (match (generalizing := false) st with
      | .inl n :: .inl dp :: .inr (.inl d) :: .inl sp :: .inr (.inl s) :: r => match (generalizing := false) jm_sh s, jm_sh d, jm_fit r, Nat.beq s d with
        | (0, ns, _), (0, nd, _), true, false => jm_gs [0 ≤ sp, 0 ≤ dp, 0 ≤ n, sp + n ≤ (ns : Int), dp + n ≤ (nd : Int)] (k + 1) ls r (jm_sr M d (jm_cpy (M s) (M d) sp dp n))
        | _, _, _, _ => jm_bad M
      | _ => jm_bad M) := h
    clear h
    split at hx
    · split at hx
      · rename_i h1 h2 h3 h4
        obtain ⟨b1, b2, b3, b4, b5, hx⟩ := hx
        exact js_copy hF hrc h1 h2 h3 h4 b1 b2 b3 b4 b5 (hw _ hx)
      · exact (jm_rs_do hx).elim
    · exact (jm_rs_do hx).elim
  · have hx : jm_do (fun mi as M Q => jm_wp n mi (0, jm_pad as (jm_mi mi).2.2.2.1, [], M) Q) (fun c' => jm_wp n m c' Q) Q k ls M (match (generalizing := false) st with
      | .inl e :: .inl d :: .inl c :: .inl b :: .inl a :: r => match (generalizing := false) jm_fit r with
        | true => jm_gs [0 ≤ a ∧ a ≤ 255, 0 ≤ b ∧ b ≤ 255, 0 ≤ c ∧ c ≤ 255, 0 ≤ d ∧ d ≤ 255, 0 ≤ e ∧ e ≤ 255] (k + 1) ls (.inr (.inr (jm_spelt a b c d e)) :: r) (jm_gh M 1 5)
        | false => jm_bad M
      | _ => jm_bad M) := h
    clear h
    split at hx
    · split at hx
      · rename_i h1
        obtain ⟨b1, b2, b3, b4, b5, hx⟩ := hx
        exact js_spelt hF hrc h1 b1 b2 b3 b4 b5 (jm_cap hx hcap) (hw _ hx)
      · exact (jm_rs_do hx).elim
    · exact (jm_rs_do hx).elim
  · have hx : jm_do (fun mi as M Q => jm_wp n mi (0, jm_pad as (jm_mi mi).2.2.2.1, [], M) Q) (fun c' => jm_wp n m c' Q) Q k ls M (match (generalizing := false) st with
      | .inl y :: .inl x :: r => match (generalizing := false) jm_fit r with
        | true => jm_go (k + 1) ls (.inl (if x < y then y else x) :: r) M
        | false => jm_bad M
      | _ => jm_bad M) := h
    clear h
    split at hx
    · split at hx
      · rename_i h1
        exact js_max hF (fun _ _ => trivial) hrc h1 (jm_cap hx hcap) (hw _ hx)
      · exact (jm_rs_do hx).elim
    · exact (jm_rs_do hx).elim
  · have hx : jm_do (fun mi as M Q => jm_wp n mi (0, jm_pad as (jm_mi mi).2.2.2.1, [], M) Q) (fun c' => jm_wp n m c' Q) Q k ls M (match (generalizing := false) st with
      | .inl y :: .inl x :: r => match (generalizing := false) jm_fit r with
        | true => jm_go (k + 1) ls (.inl (if y < x then y else x) :: r) M
        | false => jm_bad M
      | _ => jm_bad M) := h
    clear h
    split at hx
    · split at hx
      · rename_i h1
        exact js_min hF hrc h1 (jm_cap hx hcap) (hw _ hx)
      · exact (jm_rs_do hx).elim
    · exact (jm_rs_do hx).elim
  · obtain ⟨y, rfl, hx⟩ := wr1 (x := 0) h
    exact js_wrap hl hSn hF hrc (Or.inl ⟨rfl, rfl, y, rfl⟩) hx hw hcap
  · obtain ⟨y, y', rfl, hx⟩ := wr2 (x := 0) h
    exact js_wrap hl hSn hF hrc (Or.inr (Or.inl ⟨rfl, rfl, y, y', rfl⟩)) hx hw hcap
  · obtain ⟨y, rfl, hx⟩ := wr1 (x := 0) h
    exact js_wrap hl hSn hF hrc (Or.inr (Or.inr (Or.inl ⟨rfl, rfl, y, rfl⟩))) hx hw hcap
  · obtain ⟨y, rfl, hx⟩ := wr1 (x := 0) h
    exact js_wrap hl hSn hF hrc (Or.inr (Or.inr (Or.inr (Or.inl ⟨rfl, rfl, y, rfl⟩)))) hx hw hcap
  · obtain ⟨y, y', rfl, hx⟩ := wr2 (x := 0) h
    exact js_wrap hl hSn hF hrc (Or.inr (Or.inr (Or.inr (Or.inr (Or.inl ⟨rfl, rfl, y, y', rfl⟩))))) hx hw hcap
  · obtain ⟨y, rfl, hx⟩ := wr1 (x := 0) h
    exact js_wrap hl hSn hF hrc (Or.inr (Or.inr (Or.inr (Or.inr (Or.inr ⟨rfl, rfl, y, rfl⟩))))) hx hw hcap
  · obtain ⟨_, _, _, _, _, _, _, hcall⟩ := jm_call_of hc
    exact js_scall hSn hF (jm_wp_lt hcall) hrc hc hw hcap
theorem js_virt {n idx : Nat} (hSn : jm_S l dC dI cA ad adV ids n) (hF : jm_F p R s mid args c dC dI cA ad adV ids A m) (hrc : jm_rc m k = some (.invokevirtual idx, a, z)) (h : jm_do (fun mi as M Q => jm_wp n mi (0, jm_pad as (jm_mi mi).2.2.2.1, [], M) Q) (fun c' => jm_wp n m c' Q) Q k ls M (jm_virt k a ls st M)) (hw : ∀ c', jm_wp n m c' Q → jm_G p l e R s mid args below meth c dC dI cA ad ids A m FQ gc gs scr c') (hcap : ∀ r M', Q r M' → (M' 999 0 - gc).toNat ≤ R.cells ∧ (M' 999 1 - gs).toNat ≤ R.slots) : jm_G p l e R s mid args below meth c dC dI cA ad ids A m FQ gc gs scr (k, ls, st, M) := by
  rcases jm_virt_num h with rfl | rfl | hc
  · have hx : jm_do (fun mi as M Q => jm_wp n mi (0, jm_pad as (jm_mi mi).2.2.2.1, [], M) Q) (fun c' => jm_wp n m c' Q) Q k ls M (match (generalizing := false) st with
      | .inr (.inl c) :: r => match (generalizing := false) Nat.ble 200 c, Nat.ble c 205, jm_fit r with
        | true, true, true => jm_go (k + 1) ls (.inl ((jm_str (c - 200)).length : Int) :: r) M
        | _, _, _ => jm_bad M
      | _ => jm_bad M) := h
    clear h
    split at hx
    · split at hx
      · rename_i h1 h2 h3
        exact js_strlen hF hrc (Nat.le_of_ble_eq_true h1) (Nat.le_of_ble_eq_true h2) h3 (jm_cap hx hcap) (hw _ hx)
      · exact (jm_rs_do hx).elim
    · exact (jm_rs_do hx).elim
  · have hx : jm_do (fun mi as M Q => jm_wp n mi (0, jm_pad as (jm_mi mi).2.2.2.1, [], M) Q) (fun c' => jm_wp n m c' Q) Q k ls M (match (generalizing := false) st with
      | .inl i :: .inr (.inl c) :: r => match (generalizing := false) Nat.ble 200 c, Nat.ble c 205, jm_fit r with
        | true, true, true => jm_gs [0 ≤ i, i < ((jm_str (c - 200)).length : Int)] (k + 1) ls (.inl (jm_chr (jm_str (c - 200)) i.toNat) :: r) M
        | _, _, _ => jm_bad M
      | _ => jm_bad M) := h
    clear h
    split at hx
    · split at hx
      · rename_i h1 h2 h3
        obtain ⟨b1, b2, hx⟩ := hx
        exact js_strchar hF hrc (Nat.le_of_ble_eq_true h1) (Nat.le_of_ble_eq_true h2) h3 (jm_cap hx hcap) b1 b2 (hw _ hx)
      · exact (jm_rs_do hx).elim
    · exact (jm_rs_do hx).elim
  · obtain ⟨_, _, _, _, _, _, _, hcall⟩ := jm_call_of hc
    exact js_vcall hSn hF (jm_wp_lt hcall) hrc hc hw hcap
end JS9
/-- SOUNDNESS: what the deep machine comes to, the machine comes to -/
theorem js_sound (l : Launch) (hl : l.stackTraces = false) (dC : Nat → ClassId) (dI : Nat → Nat → Nat) (cA : Nat → ClassId) (ad adV : Nat → Nat) (ids : List Nat) : ∀ n, jm_S l dC dI cA ad adV ids n := by
  intro n
  induction n with
  | zero => intro m cf Q h; exact h.elim
  | succ n ih =>
    intro m cf Q h p e R s mid args below meth c A FQ gc gs scr hF hsc hcap hfin
    obtain ⟨k, ls, st, M⟩ := cf
    obtain ⟨e0, he⟩ := jm_wp_rc h
    rw [jm_wp_succ he] at h
    have hw : ∀ c', jm_wp n m c' Q → jm_G p l e R s mid args below meth c dC dI cA ad ids A m FQ gc gs scr c' := fun c' h' => ih m c' Q h' p e R s mid args below meth c A FQ gc gs scr hF hsc hcap hfin
    obtain ⟨i, a, z⟩ := e0
    have he : jm_rc m k = some (i, a, z) := he
    have h : jm_do (fun mi as M Q => jm_wp n mi (0, jm_pad as (jm_mi mi).2.2.2.1, [], M) Q) (fun c' => jm_wp n m c' Q) Q k ls M (jm_ef (i, a, z) k ls st M) := h
    cases i with
    | iadd => exact js_iadd hF he h hw
    | isub => exact js_isub hF he h hw
    | imul => exact js_imul hF he h hw
    | idiv => exact js_idiv hF he h hw
    | irem => exact js_irem hF he h hw
    | iand => exact js_iand hF he h hw
    | ior => exact js_ior hF he h hw
    | ishr => exact js_ishr hF he h hw
    | ishl => exact js_ishl hF he h hw
    | ineg => exact js_ineg hF he h hw
    | i2b => exact js_i2b hF he h hw
    | i2l => exact js_i2l hF he h hw
    | ladd => exact js_ladd hF he h hw
    | lsub => exact js_lsub hF he h hw
    | lmul => exact js_lmul hF he h hw
    | lcmp => exact js_lcmp hF he h hw
    | dup => exact js_dup hF he h hw
    | dup2 => exact js_dup2 hF he h hw
    | pop => exact js_pop hF he h hw
    | iconst n => exact js_iconst hF he h hw
    | bipush n => exact js_bipush hF he h hw
    | sipush n => exact js_sipush hF he h hw
    | lconst n => exact js_lconst hF he h hw
    | ldc_w i => exact js_ldcw hF he h hw
    | ldc2_w i => exact js_ldc2 hF he h hw
    | ldc i =>
      cases a with
      | zero => exact js_ldc0 hF he h hw
      | succ sn =>
        by_cases hs : sn = 99
        · subst hs
          exact (jm_noldc he).elim
        · exact js_ldcS hF he hs h hw
    | aload_n j => exact js_ldA hF he (by simp) rfl (fun hd x JL H locs cells slots rest hl hW => lv_aload_n hF.1 hF.2.1 hd rfl hl hW) h hw
    | aload j => exact js_ldA hF he (by simp) rfl (fun hd x JL H locs cells slots rest hl hW => lv_aload hF.1 hF.2.1 hd hl hW) h hw
    | iload_n j => exact js_ldI hF he (by simp) rfl (fun hd x JL H locs cells slots rest hl hW => lv_iload_n hF.1 hF.2.1 hd rfl hl hW) h hw
    | iload j => exact js_ldI hF he (by simp) rfl (fun hd x JL H locs cells slots rest hl hW => lv_iload hF.1 hF.2.1 hd hl hW) h hw
    | lload_n j => exact js_ldL hF he (by simp) rfl (fun hd x JL H locs cells slots rest hl hW => lv_lload_n hF.1 hF.2.1 hd rfl hl hW) h hw
    | istore_n j => exact js_stI hF he (by simp) rfl rfl (fun hd x JL H locs cells slots rest lv hl hj kk => lv_istore_n hF.1 hF.2.1 hd rfl hl hj rfl kk) h hw
    | istore j => exact js_stI hF he (by simp) rfl rfl (fun hd x JL H locs cells slots rest lv hl hj kk => lv_istore hF.1 hF.2.1 hd hl hj rfl kk) h hw
    | astore_n j => exact js_stA hF he (by simp) rfl rfl (fun hd x JL H locs cells slots rest lv hl hj kk => lv_astore_n hF.1 hF.2.1 hd rfl hl hj rfl kk) h hw
    | astore j => exact js_stA hF he (by simp) rfl rfl (fun hd x JL H locs cells slots rest lv hl hj kk => lv_astore hF.1 hF.2.1 hd hl hj rfl kk) h hw
    | iinc j n => exact js_iinc hF he h hw
    | ifCond cc off => exact js_if hF he h hw
    | if_icmp cc off => exact js_icmp hF he h hw
    | goto off => exact js_goto hF he h hw
    | tableswitch d lo hi offs => exact js_switch hF he h hw
    | iaload => exact js_iaload hF hsc he h hw
    | baload => exact js_baload hF he h hw
    | laload => exact js_laload hF he h hw
    | aaload => exact js_aaload hF he h hw
    | iastore => exact js_iastore hF he h hw
    | bastore => exact js_bastore hF he h hw
    | arraylength => exact js_alen hF hsc he h hw
    | getfield i => exact js_getfield hF he h hw
    | putfield i => exact js_putfield hF he h hw
    | invokestatic i => exact js_stat hl ih hF he h hw hcap
    | invokevirtual i => exact js_virt ih hF he h hw hcap
    | ireturn => exact js_ireturn hF he h hfin
    | return_ => exact js_return hF he h hfin
    | new i => exact js_new hF he h hfin
    | _ => exact (jm_rs_do h).elim
