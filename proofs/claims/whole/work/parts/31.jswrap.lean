set_option maxRecDepth 100000 in
theorem jw_w0 : lw_tbl[105]? = some (.initialized RL) ∧ lw_tbl[1039]? = some (.classLink RL 13 jx_N) ∧ lw_tbl[1037]? = some (.static yL_around) ∧ lw_tbl[1040]? = some (.methodLink RL 7 (jm_y 89)) ∧ lw_tbl[1110]? = some (.static yL_distance) ∧ lw_tbl[1112]? = some (.methodLink RL 15 (jm_y 90)) ∧ lw_tbl[1123]? = some (.static yL_potential) ∧ lw_tbl[1125]? = some (.methodLink RL 19 (jm_y 93)) ∧ lw_tbl[1130]? = some (.static yL_on) ∧ lw_tbl[1132]? = some (.methodLink RL 22 (jm_y 96)) ∧ lw_tbl[1138]? = some (.static yL_left) ∧ lw_tbl[1140]? = some (.methodLink RL 25 (jm_y 97)) ∧ lw_tbl[1147]? = some (.static yL_excess) ∧ lw_tbl[1149]? = some (.methodLink RL 28 (jm_y 99)) := by decide +kernel
set_option maxRecDepth 100000 in
theorem jw_c910 : lw_tbl[1038]? = some (.codeWith yL_around cL_around 4 (some .int) [(0, 9, 12, 13)]) := rfl
theorem jw_d910 : jw_D1 cL_around 7 := by unfold jw_D1; decide +kernel
set_option maxRecDepth 100000 in
theorem jw_c911 : lw_tbl[1111]? = some (.codeWith yL_distance cL_distance 5 (some .int) [(0, 10, 13, 13)]) := rfl
theorem jw_d911 : jw_D2 cL_distance 15 := by unfold jw_D2; decide +kernel
set_option maxRecDepth 100000 in
theorem jw_c912 : lw_tbl[1124]? = some (.codeWith yL_potential cL_potential 4 (some .int) [(0, 9, 12, 13)]) := rfl
theorem jw_d912 : jw_D1 cL_potential 19 := by unfold jw_D1; decide +kernel
set_option maxRecDepth 100000 in
theorem jw_c913 : lw_tbl[1131]? = some (.codeWith yL_on cL_on 4 (some .int) [(0, 9, 12, 13)]) := rfl
theorem jw_d913 : jw_D1 cL_on 22 := by unfold jw_D1; decide +kernel
set_option maxRecDepth 100000 in
theorem jw_c914 : lw_tbl[1139]? = some (.codeWith yL_left cL_left 5 (some .int) [(0, 10, 13, 13)]) := rfl
theorem jw_d914 : jw_D2 cL_left 25 := by unfold jw_D2; decide +kernel
set_option maxRecDepth 100000 in
theorem jw_c915 : lw_tbl[1148]? = some (.codeWith yL_excess cL_excess 4 (some .int) [(0, 9, 12, 13)]) := rfl
theorem jw_d915 : jw_D1 cL_excess 28 := by unfold jw_D1; decide +kernel
theorem jw_mi : ∀ mi ∈ [89, 93, 96, 99], mi < 216 ∧ (jm_mi mi).2.1 = 1 ∧ (jm_mi mi).1 = 9 ∧ (jm_mi mi).2.2.1 = 2 ∧ 2 ≤ (jm_mi mi).2.2.2.1 ∧ (jm_mi mi).2.2.2.2.1 + 1 + 1 ≤ 10 ∧ 8 + (4 + 11) + (8 + ((jm_mi mi).2.2.2.1 + 11) + (jm_mi mi).2.2.2.2.2.1) ≤ 253 := by decide +kernel
theorem jw_mi2 : ∀ mi ∈ [90, 97], mi < 216 ∧ (jm_mi mi).2.1 = 1 ∧ (jm_mi mi).1 = 9 ∧ (jm_mi mi).2.2.1 = 3 ∧ 3 ≤ (jm_mi mi).2.2.2.1 ∧ (jm_mi mi).2.2.2.2.1 + 1 + 1 ≤ 10 ∧ 8 + (5 + 11) + (8 + ((jm_mi mi).2.2.2.1 + 11) + (jm_mi mi).2.2.2.2.2.1) ≤ 253 := by decide +kernel
section JS8
variable {p : Program} {l : Launch} {e : Env} {R : Room} {s : State} {mid : MethodId} {args : Array Value} {below : List Frame} {meth : Method} {c : Code}
variable {dC : Nat → ClassId} {dI : Nat → Nat → Nat} {cA : Nat → ClassId} {ad adV : Nat → Nat} {ids : List Nat} {A : Nat → Prop} {m : Nat} {FQ : State → Prop} {gc gs : Int} {scr : Int → Int}
variable {Q : jm_Q} {k : Nat} {ls : jm_Ls} {M : jm_Mem} {z : Int}
theorem jw_okv {mi : Nat} {as : List jm_V} (hm : m = 216) (h98 : ∀ v ∈ as, v ≠ .inr (.inl 998)) (h : ∀ v ∈ as, jm_okv ids m v) : ∀ v ∈ as, jm_okv ids mi v := by
  intro v hv
  have h1 := h v hv
  have h2 := h98 v hv
  match v, h1, h2 with
  | .inl x, q, _ => exact q
  | .inr (.inr x), q, _ => exact q
  | .inr (.inl x), q, h2 =>
    rcases q with q | q | q
    · exact Or.inl q
    · exact Or.inr (Or.inl q)
    · exact absurd (by rw [q.1]) h2
theorem js_wrap1 {n idx x iv mi : Nat} {y0 : Int} {cc : ByteArray} (hl : l.stackTraces = false) (hSn : jm_S l dC dI cA ad adV ids n) (hF : jm_F p R s mid args c dC dI cA ad adV ids A m) (hrc : jm_rc m k = some (.invokestatic idx, x, z)) (hx : 910 ≤ x) (hmi : mi ∈ [89, 93, 96, 99]) (hD : jw_D1 cc iv) (hcls : (jm_by x).cls = RL) (hdsc : (parseMethodDescriptor (jm_by x).desc).map (fun d => d.parameters.length) = some 3) (hw1 : Cond.static (jm_by x) ∈ jm_g) (hw2 : Cond.codeWith (jm_by x) cc 4 (some .int) [(0, 9, 12, 13)] ∈ jm_g) (hlink : Cond.methodLink RL iv (jm_y mi) ∈ jm_g) (h : jm_wp n mi (0, jm_pad [.inr (.inl 0), .inl y0] (jm_mi mi).2.2.2.1, [], M) (jm_k (fun st' M' => jm_wp n m (k + 1, ls, st', M') Q) [] 2)) (hw : ∀ c', jm_wp n m c' Q → jm_G p l e R s mid args below meth c dC dI cA ad ids A m FQ gc gs scr c') (hcap : ∀ r M', Q r M' → (M' 999 0 - gc).toNat ≤ R.cells ∧ (M' 999 1 - gs).toNat ≤ R.slots) : jm_G p l e R s mid args below meth c dC dI cA ad ids A m FQ gc gs scr (k, ls, .inr (.inl 94) :: ([.inr (.inl 0), .inl y0] : List jm_V).reverse, M) := by
  have hm := jw_m hrc hx
  obtain ⟨m1, m2, m3, m4, m5, m6, m7⟩ := jw_mi mi hmi
  obtain ⟨r1, M1, hk, hdet⟩ := jm_wp_det _ _ _ _ h
  have hne : (jm_by x).cls ≠ "java/lang/invoke/MethodHandle" ∧ (jm_by x).cls ≠ "java/lang/invoke/VarHandle" := by rw [hcls]; decide
  have hwp1 : jm_wp n mi (0, jm_pad [.inr (.inl 0), .inl y0] (jm_mi mi).2.2.2.1, [], M) (fun r' M' => r' = r1 ∧ M' = M1) := hdet n (Nat.le_refl _) _ ⟨rfl, rfl⟩
  obtain ⟨r2, M3, ⟨q1, q2⟩, hle⟩ := jm_wp_le _ _ _ _ hwp1
  subst q1; subst q2
  have hle : jm_le M M3 := hle
  have hgen : ∀ (rr : Int) (M2 : jm_Mem), jm_in rr → jm_le M M2 → jm_wp n m (k + 1, ls, [.inl rr], M2) Q → ((r2 = jm_thr ∧ rr = 1 ∧ M2 = jm_gh M3 1 6) ∨ ∃ x, r2 = some (.inl x) ∧ rr = 0 ∧ M2 = jm_st M3 94 0 x) → jm_G p l e R s mid args below meth c dC dI cA ad ids A m FQ gc gs scr (k, ls, .inr (.inl 94) :: ([.inr (.inl 0), .inl y0] : List jm_V).reverse, M) := by
    intro rr M2 hrr hle2 hnx hcase
    refine jw_go (cc := cc) (maxL := 4) (hh := [(0, 9, 12, 13)]) (rf := (jm_mi mi).2.2.2.2.1 + 1) (rl := 8 + ((jm_mi mi).2.2.2.1 + 11) + (jm_mi mi).2.2.2.2.2.1) (as := [.inr (.inl 0), .inl y0]) (M2 := M2) (rr := rr) hF hm hrc hx (hw _ hnx) hrr hle2 (jm_cap hnx hcap) hw1 hw2 (by rw [hcls]; exact jm_in_g _ jw_w0.1 rfl) ⟨hne.1, hne.2, hdsc⟩ ⟨m6, m7⟩ (fun sz hM hall h94 => ?_)
    exact jw_met1 hl hSn hD (by rw [hcls]; decide) hcls sz m1 m2 m3 m4 m5 hlink (jm_in_g _ jw_w0.2.1 rfl) (hdet n (Nat.le_refl _) _ hcase) (jw_okv hm (by intro v hv q; subst q; simp at hv) hall) (jk_ids (hall _ List.mem_cons_self) (by decide)) h94 hM hF.2.2.2.2.2.2.2.2.1
  rcases hk with ⟨e1, hk⟩ | ⟨x0, e1, hk⟩
  · exact hgen 1 _ ⟨by decide, by decide⟩ ⟨by rw [jm_gh_a]; have := hle.1; omega, by rw [jm_gh_b]; have := hle.2.1; omega, by rw [jm_gh_o 1 6 (by decide)]; exact hle.2.2⟩ hk (Or.inl ⟨e1, rfl, rfl⟩)
  · exact hgen 0 _ ⟨by decide, by decide⟩ ⟨by rw [jm_st_ne (by decide)]; exact hle.1, by rw [jm_st_ne (by decide)]; exact hle.2.1, by rw [jm_st_ne (by decide)]; exact hle.2.2⟩ hk (Or.inr ⟨x0, e1, rfl, rfl⟩)
theorem js_wrap2 {n idx x iv mi : Nat} {y0 y1 : Int} {cc : ByteArray} (hl : l.stackTraces = false) (hSn : jm_S l dC dI cA ad adV ids n) (hF : jm_F p R s mid args c dC dI cA ad adV ids A m) (hrc : jm_rc m k = some (.invokestatic idx, x, z)) (hx : 910 ≤ x) (hmi : mi ∈ [90, 97]) (hD : jw_D2 cc iv) (hcls : (jm_by x).cls = RL) (hdsc : (parseMethodDescriptor (jm_by x).desc).map (fun d => d.parameters.length) = some 4) (hw1 : Cond.static (jm_by x) ∈ jm_g) (hw2 : Cond.codeWith (jm_by x) cc 5 (some .int) [(0, 10, 13, 13)] ∈ jm_g) (hlink : Cond.methodLink RL iv (jm_y mi) ∈ jm_g) (h : jm_wp n mi (0, jm_pad [.inr (.inl 0), .inl y0, .inl y1] (jm_mi mi).2.2.2.1, [], M) (jm_k (fun st' M' => jm_wp n m (k + 1, ls, st', M') Q) [] 2)) (hw : ∀ c', jm_wp n m c' Q → jm_G p l e R s mid args below meth c dC dI cA ad ids A m FQ gc gs scr c') (hcap : ∀ r M', Q r M' → (M' 999 0 - gc).toNat ≤ R.cells ∧ (M' 999 1 - gs).toNat ≤ R.slots) : jm_G p l e R s mid args below meth c dC dI cA ad ids A m FQ gc gs scr (k, ls, .inr (.inl 94) :: ([.inr (.inl 0), .inl y0, .inl y1] : List jm_V).reverse, M) := by
  have hm := jw_m hrc hx
  obtain ⟨m1, m2, m3, m4, m5, m6, m7⟩ := jw_mi2 mi hmi
  obtain ⟨r1, M1, hk, hdet⟩ := jm_wp_det _ _ _ _ h
  have hne : (jm_by x).cls ≠ "java/lang/invoke/MethodHandle" ∧ (jm_by x).cls ≠ "java/lang/invoke/VarHandle" := by rw [hcls]; decide
  have hwp1 : jm_wp n mi (0, jm_pad [.inr (.inl 0), .inl y0, .inl y1] (jm_mi mi).2.2.2.1, [], M) (fun r' M' => r' = r1 ∧ M' = M1) := hdet n (Nat.le_refl _) _ ⟨rfl, rfl⟩
  obtain ⟨r2, M3, ⟨q1, q2⟩, hle⟩ := jm_wp_le _ _ _ _ hwp1
  subst q1; subst q2
  have hle : jm_le M M3 := hle
  have hgen : ∀ (rr : Int) (M2 : jm_Mem), jm_in rr → jm_le M M2 → jm_wp n m (k + 1, ls, [.inl rr], M2) Q → ((r2 = jm_thr ∧ rr = 1 ∧ M2 = jm_gh M3 1 6) ∨ ∃ x, r2 = some (.inl x) ∧ rr = 0 ∧ M2 = jm_st M3 94 0 x) → jm_G p l e R s mid args below meth c dC dI cA ad ids A m FQ gc gs scr (k, ls, .inr (.inl 94) :: ([.inr (.inl 0), .inl y0, .inl y1] : List jm_V).reverse, M) := by
    intro rr M2 hrr hle2 hnx hcase
    refine jw_go (cc := cc) (maxL := 5) (hh := [(0, 10, 13, 13)]) (rf := (jm_mi mi).2.2.2.2.1 + 1) (rl := 8 + ((jm_mi mi).2.2.2.1 + 11) + (jm_mi mi).2.2.2.2.2.1) (as := [.inr (.inl 0), .inl y0, .inl y1]) (M2 := M2) (rr := rr) hF hm hrc hx (hw _ hnx) hrr hle2 (jm_cap hnx hcap) hw1 hw2 (by rw [hcls]; exact jm_in_g _ jw_w0.1 rfl) ⟨hne.1, hne.2, hdsc⟩ ⟨m6, m7⟩ (fun sz hM hall h94 => ?_)
    exact jw_met2 hl hSn hD (by rw [hcls]; decide) hcls sz m1 m2 m3 m4 m5 hlink (jm_in_g _ jw_w0.2.1 rfl) (hdet n (Nat.le_refl _) _ hcase) (jw_okv hm (by intro v hv q; subst q; simp at hv) hall) (jk_ids (hall _ List.mem_cons_self) (by decide)) h94 hM hF.2.2.2.2.2.2.2.2.1
  rcases hk with ⟨e1, hk⟩ | ⟨x0, e1, hk⟩
  · exact hgen 1 _ ⟨by decide, by decide⟩ ⟨by rw [jm_gh_a]; have := hle.1; omega, by rw [jm_gh_b]; have := hle.2.1; omega, by rw [jm_gh_o 1 6 (by decide)]; exact hle.2.2⟩ hk (Or.inl ⟨e1, rfl, rfl⟩)
  · exact hgen 0 _ ⟨by decide, by decide⟩ ⟨by rw [jm_st_ne (by decide)]; exact hle.1, by rw [jm_st_ne (by decide)]; exact hle.2.1, by rw [jm_st_ne (by decide)]; exact hle.2.2⟩ hk (Or.inr ⟨x0, e1, rfl, rfl⟩)
theorem js_wrap {n idx x mi : Nat} {as : List jm_V} (hl : l.stackTraces = false) (hSn : jm_S l dC dI cA ad adV ids n) (hF : jm_F p R s mid args c dC dI cA ad adV ids A m) (hrc : jm_rc m k = some (.invokestatic idx, x, z)) (hx : (x = 910 ∧ mi = 89 ∧ ∃ y, as = [.inr (.inl 0), .inl y]) ∨ (x = 911 ∧ mi = 90 ∧ ∃ y y', as = [.inr (.inl 0), .inl y, .inl y']) ∨ (x = 912 ∧ mi = 93 ∧ ∃ y, as = [.inr (.inl 0), .inl y]) ∨ (x = 913 ∧ mi = 96 ∧ ∃ y, as = [.inr (.inl 0), .inl y]) ∨ (x = 914 ∧ mi = 97 ∧ ∃ y y', as = [.inr (.inl 0), .inl y, .inl y']) ∨ (x = 915 ∧ mi = 99 ∧ ∃ y, as = [.inr (.inl 0), .inl y])) (h : jm_wp n mi (0, jm_pad as (jm_mi mi).2.2.2.1, [], M) (jm_k (fun st' M' => jm_wp n m (k + 1, ls, st', M') Q) [] 2)) (hw : ∀ c', jm_wp n m c' Q → jm_G p l e R s mid args below meth c dC dI cA ad ids A m FQ gc gs scr c') (hcap : ∀ r M', Q r M' → (M' 999 0 - gc).toNat ≤ R.cells ∧ (M' 999 1 - gs).toNat ≤ R.slots) : jm_G p l e R s mid args below meth c dC dI cA ad ids A m FQ gc gs scr (k, ls, .inr (.inl 94) :: as.reverse, M) := by
  obtain ⟨-, -, s910, t910, s911, t911, s912, t912, s913, t913, s914, t914, s915, t915⟩ := jw_w0
  rcases hx with ⟨rfl, rfl, y, rfl⟩ | ⟨rfl, rfl, y, y', rfl⟩ | ⟨rfl, rfl, y, rfl⟩ | ⟨rfl, rfl, y, rfl⟩ | ⟨rfl, rfl, y, y', rfl⟩ | ⟨rfl, rfl, y, rfl⟩
  · exact js_wrap1 hl hSn hF hrc (by decide) (by decide) jw_d910 rfl (by decide +kernel) (jm_in_g _ s910 rfl) (jm_in_g _ jw_c910 rfl) (jm_in_g _ t910 rfl) h hw hcap
  · exact js_wrap2 hl hSn hF hrc (by decide) (by decide) jw_d911 rfl (by decide +kernel) (jm_in_g _ s911 rfl) (jm_in_g _ jw_c911 rfl) (jm_in_g _ t911 rfl) h hw hcap
  · exact js_wrap1 hl hSn hF hrc (by decide) (by decide) jw_d912 rfl (by decide +kernel) (jm_in_g _ s912 rfl) (jm_in_g _ jw_c912 rfl) (jm_in_g _ t912 rfl) h hw hcap
  · exact js_wrap1 hl hSn hF hrc (by decide) (by decide) jw_d913 rfl (by decide +kernel) (jm_in_g _ s913 rfl) (jm_in_g _ jw_c913 rfl) (jm_in_g _ t913 rfl) h hw hcap
  · exact js_wrap2 hl hSn hF hrc (by decide) (by decide) jw_d914 rfl (by decide +kernel) (jm_in_g _ s914 rfl) (jm_in_g _ jw_c914 rfl) (jm_in_g _ t914 rfl) h hw hcap
  · exact js_wrap1 hl hSn hF hrc (by decide) (by decide) jw_d915 rfl (by decide +kernel) (jm_in_g _ s915 rfl) (jm_in_g _ jw_c915 rfl) (jm_in_g _ t915 rfl) h hw hcap
end JS8
