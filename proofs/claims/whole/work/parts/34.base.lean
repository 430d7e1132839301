/-! MEMORY, FRAMES, LOOPS: what the specifications of methods are written with -/
def jm_B (P : Prop) [Decidable P] : Int := if P then 1 else 0
theorem jm_B0 {P : Prop} [Decidable P] : jm_B P = 0 ↔ ¬ P := by
  unfold jm_B
  split <;> simp_all
theorem jm_B1 {P : Prop} [Decidable P] : jm_B P = 1 ↔ P := by
  unfold jm_B
  split <;> simp_all
theorem jm_Bn {P : Prop} [Decidable P] : ¬ jm_B P = 0 ↔ P := by
  unfold jm_B
  split <;> simp_all
theorem jm_Bt {P : Prop} [Decidable P] (h : P) : jm_B P = 1 := if_pos h
theorem jm_Bf {P : Prop} [Decidable P] (h : ¬ P) : jm_B P = 0 := if_neg h
theorem jm_Bb {P : Prop} [Decidable P] : 0 ≤ jm_B P ∧ jm_B P ≤ 1 := by
  unfold jm_B
  split <;> omega
theorem jm_Bc {P R : Prop} [Decidable P] [Decidable R] (h : P ↔ R) : jm_B P = jm_B R := by
  unfold jm_B
  simp only [h]
theorem jm_st_e (M : jm_Mem) (c : Nat) (i v : Int) (d : Nat) : jm_st M c i v d = if d = c then jm_up (M c) i v else M d := rfl
theorem jm_sr_e (M : jm_Mem) (c : Nat) (f : Int → Int) (d : Nat) : jm_sr M c f d = if d = c then f else M d := rfl
theorem jm_up_e (f : Int → Int) (i v j : Int) : jm_up f i v j = if j = i then v else f j := rfl
theorem jm_up_s (f : Int → Int) (i v : Int) : jm_up f i v i = v := if_pos rfl
theorem jm_up_o {f : Int → Int} {i v j : Int} (h : j ≠ i) : jm_up f i v j = f j := if_neg h
theorem jm_up_id (f : Int → Int) (i : Int) : jm_up f i (f i) = f := by
  funext j
  by_cases h : j = i
  · rw [h, jm_up_s]
  · rw [jm_up_o h]
theorem jm_up_up (f : Int → Int) (i v v' : Int) : jm_up (jm_up f i v) i v' = jm_up f i v' := by
  funext j
  by_cases h : j = i
  · rw [h, jm_up_s, jm_up_s]
  · rw [jm_up_o h, jm_up_o h, jm_up_o h]
/-- nothing has changed but these cells -/
def jm_fr (cs : List Nat) (M M' : jm_Mem) : Prop := ∀ c, c ∉ cs → M' c = M c
theorem jm_fr_rfl (cs : List Nat) (M : jm_Mem) : jm_fr cs M M := fun _ _ => rfl
theorem jm_fr_tr {cs : List Nat} {M M1 M2 : jm_Mem} (h1 : jm_fr cs M M1) (h2 : jm_fr cs M1 M2) : jm_fr cs M M2 := fun c hc => (h2 c hc).trans (h1 c hc)
theorem jm_fr_mo {as bs : List Nat} {M M1 : jm_Mem} (h1 : jm_fr as M M1) (h : ∀ c ∈ as, c ∈ bs) : jm_fr bs M M1 := fun c hc => h1 c (fun q => hc (h c q))
theorem jm_fr_st {cs : List Nat} {M : jm_Mem} {c : Nat} {i v : Int} (h : c ∈ cs) : jm_fr cs M (jm_st M c i v) := fun d hd => if_neg (fun q => hd (by rw [q]; exact h))
theorem jm_fr_sr {cs : List Nat} {M : jm_Mem} {c : Nat} {f : Int → Int} (h : c ∈ cs) : jm_fr cs M (jm_sr M c f) := fun d hd => if_neg (fun q => hd (by rw [q]; exact h))
/-- a loop that counts up to N -/
theorem jm_dn {P : Int → Prop} {N : Int} (h : ∀ j, j ≤ N → (j < N → P (j + 1)) → P j) (j : Int) (hj : j ≤ N) : P j := by
  obtain ⟨n, hn⟩ : ∃ n : Nat, N - j = n := ⟨(N - j).toNat, by omega⟩
  induction n generalizing j with
  | zero => exact h j hj (fun hlt => by omega)
  | succ n ih => exact h j hj (fun hlt => ih (j + 1) (by omega) (by omega))
/-- a loop with a measure -/
theorem jm_ms {α : Type} (μ : α → Nat) {P : α → Prop} (h : ∀ a, (∀ b, μ b < μ a → P b) → P a) (a : α) : P a := by
  generalize hn : μ a = n
  induction n using Nat.strongRecOn generalizing a with
  | ind n ih => exact h a (fun b hb => ih (μ b) (hn ▸ hb) b rfl)
/-! A row that is filled -/
def jm_fl (n v : Int) (f : Int → Int) : Int → Int := fun i => if 0 ≤ i ∧ i < n then v else f i
theorem jm_fillL {c n : Nat} {l : List Nat} {v : Int} (hc : jm_sh c = (0, n, l)) (hn : n ≤ 1000) {Q : jm_Q} : ∀ (j : Int), j ≤ (n : Int) → 0 ≤ j → ∀ M, Q none (jm_sr M c (fun i => if j ≤ i ∧ i < (n : Int) then v else M c i)) → jm_run 215 (5, [some (jm_R c), some (jm_I v), some (jm_I j), some (jm_I (n : Int))], [], M) Q := by
  refine jm_dn ?_
  intro j hj ih h0 M hQ
  refine jm_sg_run 10 [11] (c := (5, [some (jm_R c), some (jm_I v), some (jm_I j), some (jm_I (n : Int))], [], M)) (show (j < (n : Int) → jm_run 215 (11, [some (jm_R c), some (jm_I v), some (jm_I j), some (jm_I (n : Int))], [jm_I v, jm_I j, jm_R c], M) Q) ∧ (¬ j < (n : Int) → Q none M) from ⟨fun hlt => ?_, fun hge => ?_⟩)
  · refine jm_step (e := (.iastore, 0, 0)) rfl ?_
    have e1 : ∀ ls, jm_ef (.iastore, 0, 0) 11 ls [jm_I v, jm_I j, jm_R c] M = jm_gs [0 ≤ j, j < (n : Int)] 12 ls [] (jm_st M c j v) := by
      intro ls
      show (match jm_sh c with
        | (0, k, _) => jm_gs [0 ≤ j, j < (k : Int)] (11 + 1) ls [] (jm_st M c j v)
        | _ => jm_bad M) = _
      rw [hc]
      rfl
    show jm_do jm_cl (fun c' => jm_run 215 c' Q) Q 11 _ M (jm_ef (.iastore, 0, 0) 11 _ [jm_I v, jm_I j, jm_R c] M)
    rw [e1]
    show 0 ≤ j ∧ j < (n : Int) ∧ jm_run 215 (12, [some (jm_R c), some (jm_I v), some (jm_I j), some (jm_I (n : Int))], [], jm_st M c j v) Q
    refine ⟨h0, hlt, ?_⟩
    refine jm_sg_run 2 [5] (c := (12, [some (jm_R c), some (jm_I v), some (jm_I j), some (jm_I (n : Int))], [], jm_st M c j v)) (show jm_in (j + 1) ∧ jm_run 215 (5, [some (jm_R c), some (jm_I v), some (jm_I (j + 1)), some (jm_I (n : Int))], [], jm_st M c j v) Q from ⟨⟨by omega, by omega⟩, ih hlt (by omega) _ ?_⟩)
    have : jm_sr (jm_st M c j v) c (fun i => if j + 1 ≤ i ∧ i < (n : Int) then v else jm_st M c j v c i) = jm_sr M c (fun i => if j ≤ i ∧ i < (n : Int) then v else M c i) := by
      funext d
      rw [jm_sr_e, jm_sr_e, jm_st_e, jm_st_e, if_pos rfl]
      split
      · funext i
        by_cases hi : i = j
        · subst hi
          rw [if_neg (by omega), jm_up_s, if_pos (by omega)]
        · rw [jm_up_o hi]
          by_cases h2 : j + 1 ≤ i ∧ i < (n : Int)
          · rw [if_pos h2, if_pos (by omega)]
          · rw [if_neg h2, if_neg (by omega)]
      · rfl
    rw [this]
    exact hQ
  · have : jm_sr M c (fun i => if j ≤ i ∧ i < (n : Int) then v else M c i) = M := by
      funext d
      rw [jm_sr_e]
      split
      · rename_i hd
        subst hd
        funext i
        exact if_neg (by omega)
      · rfl
    rw [← this]
    exact hQ
theorem jm_fill {c n : Nat} {l : List Nat} {v : Int} {M : jm_Mem} {Q : jm_Q} (hc : jm_sh c = (0, n, l)) (h98 : Nat.beq c 998 = false) (hn : n ≤ 1000) (h : Q none (jm_sr M c (jm_fl (n : Int) v (M c)))) : jm_cl 215 [jm_R c, jm_I v] M Q := by
  refine jm_sg_run 3 [3] (c := (0, [some (jm_R c), some (jm_I v), none, none], [], M)) (show jm_run 215 (3, [some (jm_R c), some (jm_I v), some (jm_I 0), none], [jm_R c], M) Q from ?_)
  refine jm_step (e := (.arraylength, 0, 0)) rfl ?_
  have e1 : ∀ ls, jm_ef (.arraylength, 0, 0) 3 ls [jm_R c] M = jm_go 4 ls [jm_I (n : Int)] M := by
    intro ls
    show (match Nat.beq c 998, jm_sh c with
      | true, _ => jm_go (3 + 1) ls [jm_I (M 998 (-1))] M
      | false, (0, n, _) => jm_go (3 + 1) ls [jm_I (n : Int)] M
      | _, _ => jm_bad M) = _
    rw [hc, h98]
    rfl
  show jm_do jm_cl (fun c' => jm_run 215 c' Q) Q 3 _ M (jm_ef (.arraylength, 0, 0) 3 _ [jm_R c] M)
  rw [e1]
  refine jm_sg_run 1 [5] (c := (4, [some (jm_R c), some (jm_I v), some (jm_I 0), none], [jm_I (n : Int)], M)) (show jm_run 215 (5, [some (jm_R c), some (jm_I v), some (jm_I 0), some (jm_I (n : Int))], [], M) Q from ?_)
  exact jm_fillL hc hn 0 (by omega) (by omega) M h
/-! A call that comes to one end only comes to that end -/
theorem jm_dl_and {w w' : jm_Cfg → Prop} {d : jm_Cfg} : ∀ {dl : List (Prop × jm_Cfg)}, jm_dl w dl d → jm_dl w' dl d → ∃ c, w c ∧ w' c
  | [], h, h' => ⟨d, h, h'⟩
  | (P, s) :: l, h, h' => by
    by_cases hP : P
    · exact ⟨s, h.1 hP, h'.1 hP⟩
    · exact jm_dl_and (h.2 hP) (h'.2 hP)
theorem jm_k_and {w w' : List jm_V → jm_Mem → Prop} {rest : List jm_V} {r : Option jm_V} {M : jm_Mem} : ∀ {kd : Nat}, jm_k w rest kd r M → jm_k w' rest kd r M → ∃ (st : List jm_V) (M' : jm_Mem), w st M' ∧ w' st M'
  | 0, h, h' => ⟨_, _, h.2, h'.2⟩
  | 1, h, h' => by
    obtain ⟨x, h1, h2⟩ := h
    obtain ⟨y, h3, h4⟩ := h'
    rw [h1] at h3
    injection h3 with h3
    injection h3 with h3
    subst h3
    exact ⟨_, _, h2, h4⟩
  | n + 2, h, h' => by
    rcases h with ⟨h1, h2⟩ | ⟨x, h1, h2⟩
    · rcases h' with ⟨h3, h4⟩ | ⟨y, h3, h4⟩
      · exact ⟨_, _, h2, h4⟩
      · rw [h1] at h3
        injection h3 with h3
        cases h3
    · rcases h' with ⟨h3, h4⟩ | ⟨y, h3, h4⟩
      · rw [h1] at h3
        injection h3 with h3
        cases h3
      · rw [h1] at h3
        injection h3 with h3
        injection h3 with h3
        subst h3
        exact ⟨_, _, h2, h4⟩
theorem jm_wp_and : ∀ (n m : Nat) (c : jm_Cfg) (Q Q' : jm_Q), jm_wp n m c Q → jm_wp n m c Q' → ∃ r M, Q r M ∧ Q' r M := by
  intro n
  induction n with
  | zero => intro m c Q Q' h; exact h.elim
  | succ n ih =>
    intro m c Q Q' h h'
    obtain ⟨e, he⟩ := jm_wp_rc h
    rw [jm_wp_succ he] at h h'
    generalize jm_ef e c.1 c.2.1 c.2.2.1 c.2.2.2 = E at h h'
    match E, h, h' with
    | .inl (s, dl, d), h, h' =>
      have h0 : jm_cj s (jm_dl (fun c' => jm_wp n m c' Q) dl d) := h
      have h1 : jm_cj s (jm_dl (fun c' => jm_wp n m c' Q') dl d) := h'
      obtain ⟨c', h2, h3⟩ := jm_dl_and (jm_cj_of h0) (jm_cj_of h1)
      exact ih m c' Q Q' h2 h3
    | .inr (.inl (kd, mi, as, rest)), h, h' =>
      have h0 : jm_wp n mi (0, jm_pad as (jm_mi mi).2.2.2.1, [], c.2.2.2) (jm_k (fun st M' => jm_wp n m (c.1 + 1, c.2.1, st, M') Q) rest kd) := h
      have h1 : jm_wp n mi (0, jm_pad as (jm_mi mi).2.2.2.1, [], c.2.2.2) (jm_k (fun st M' => jm_wp n m (c.1 + 1, c.2.1, st, M') Q') rest kd) := h'
      obtain ⟨r, M, h2, h3⟩ := ih _ _ _ _ h0 h1
      obtain ⟨st, M', h4, h5⟩ := jm_k_and h2 h3
      exact ih _ _ _ _ h4 h5
    | .inr (.inr (s, r, M')), h, h' =>
      have h0 : jm_cj s (Q r M') := h
      have h1 : jm_cj s (Q' r M') := h'
      exact ⟨r, M', jm_cj_of h0, jm_cj_of h1⟩
theorem jm_cl_e {m : Nat} {as : List jm_V} {M M0 : jm_Mem} {r0 : Option jm_V} (h : ∀ Q : jm_Q, Q r0 M0 → jm_cl m as M Q) (Q : jm_Q) : jm_cl m as M Q ↔ Q r0 M0 := by
  refine ⟨fun hq => ?_, h Q⟩
  obtain ⟨r, M', h1, n, h2⟩ := jm_run_det hq
  obtain ⟨r1, M1, ⟨h3, h4⟩, n1, h5⟩ := jm_run_det (h (fun r M => r = r0 ∧ M = M0) ⟨rfl, rfl⟩)
  obtain ⟨a, b, h6, h7⟩ := jm_wp_and (n + n1) m _ (fun a b => a = r ∧ b = M') (fun a b => a = r0 ∧ b = M0) (h2 _ (by omega) _ ⟨rfl, rfl⟩) (h5 _ (by omega) _ ⟨h3, h4⟩)
  obtain ⟨h8, h9⟩ := h6
  obtain ⟨h10, h11⟩ := h7
  rw [← h10, ← h11, h8, h9]
  exact h1
