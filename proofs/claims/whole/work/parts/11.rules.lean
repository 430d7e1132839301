/-! RULES OF RUNS -/
theorem jm_cj_of {s : List Prop} {p : Prop} (h : jm_cj s p) : p := by
  induction s with
  | nil => exact h
  | cons a l ih => exact ih h.2
theorem jm_cj_map {s : List Prop} {p q : Prop} (h : jm_cj s p) (f : p → q) : jm_cj s q := by
  induction s with
  | nil => exact f h
  | cons a l ih => exact ⟨h.1, ih h.2⟩
theorem jm_dl_of {w : jm_Cfg → Prop} {d : jm_Cfg} : ∀ {dl : List (Prop × jm_Cfg)}, jm_dl w dl d → ∃ c, w c ∧ ∀ w' : jm_Cfg → Prop, w' c → jm_dl w' dl d
  | [], h => ⟨d, h, fun _ h' => h'⟩
  | (P, s) :: l, h => by
    by_cases hP : P
    · exact ⟨s, h.1 hP, fun w' h' => ⟨fun _ => h', fun n => absurd hP n⟩⟩
    · obtain ⟨c, h1, h2⟩ := jm_dl_of (h.2 hP)
      exact ⟨c, h1, fun w' h' => ⟨fun y => absurd y hP, fun _ => h2 w' h'⟩⟩
theorem jm_k_of {w : List jm_V → jm_Mem → Prop} {rest : List jm_V} {r : Option jm_V} {M : jm_Mem} : ∀ {kd : Nat}, jm_k w rest kd r M → ∃ (st : List jm_V) (M' : jm_Mem), w st M' ∧ ∀ w' : List jm_V → jm_Mem → Prop, w' st M' → jm_k w' rest kd r M
  | 0, h => ⟨_, _, h.2, fun _ h' => ⟨h.1, h'⟩⟩
  | 1, h => by
    obtain ⟨x, h1, h2⟩ := h
    exact ⟨_, _, h2, fun _ h' => ⟨x, h1, h'⟩⟩
  | n + 2, h => by
    rcases h with ⟨h1, h2⟩ | ⟨x, h1, h2⟩
    · exact ⟨_, _, h2, fun _ h' => Or.inl ⟨h1, h'⟩⟩
    · exact ⟨_, _, h2, fun _ h' => Or.inr ⟨x, h1, h'⟩⟩
theorem jm_wp_succ {n m : Nat} {c : jm_Cfg} {Q : jm_Q} {e : Instr × Nat × Int} (he : jm_rc m c.1 = some e) : jm_wp (n + 1) m c Q = jm_do (fun mi as M Q => jm_wp n mi (0, jm_pad as (jm_mi mi).2.2.2.1, [], M) Q) (fun c' => jm_wp n m c' Q) Q c.1 c.2.1 c.2.2.2 (jm_ef e c.1 c.2.1 c.2.2.1 c.2.2.2) := by
  rw [jm_wp, he]
theorem jm_wp_rc {n m : Nat} {c : jm_Cfg} {Q : jm_Q} (h : jm_wp (n + 1) m c Q) : ∃ e, jm_rc m c.1 = some e := by
  rw [jm_wp] at h
  cases he : jm_rc m c.1 with
  | none => rw [he] at h; exact h.elim
  | some e => exact ⟨e, rfl⟩
theorem jm_wp_det : ∀ (n m : Nat) (c : jm_Cfg) (Q : jm_Q), jm_wp n m c Q → ∃ (r : Option jm_V) (M' : jm_Mem), Q r M' ∧ ∀ (n' : Nat), n ≤ n' → ∀ Q' : jm_Q, Q' r M' → jm_wp n' m c Q' := by
  intro n
  induction n with
  | zero => intro m c Q h; exact h.elim
  | succ n ih =>
    intro m c Q h
    obtain ⟨e, he⟩ := jm_wp_rc h
    rw [jm_wp_succ he] at h
    have fin : ∀ (r : Option jm_V) (M' : jm_Mem), Q r M' → (∀ (n' : Nat), n ≤ n' → ∀ Q' : jm_Q, Q' r M' → jm_do (fun mi as M Q => jm_wp n' mi (0, jm_pad as (jm_mi mi).2.2.2.1, [], M) Q) (fun c' => jm_wp n' m c' Q') Q' c.1 c.2.1 c.2.2.2 (jm_ef e c.1 c.2.1 c.2.2.1 c.2.2.2)) → ∃ (r : Option jm_V) (M' : jm_Mem), Q r M' ∧ ∀ (n' : Nat), n + 1 ≤ n' → ∀ Q' : jm_Q, Q' r M' → jm_wp n' m c Q' := by
      intro r M' h1 h2
      refine ⟨r, M', h1, fun n' hn Q' hQ' => ?_⟩
      obtain ⟨k, rfl⟩ : ∃ k, n' = k + 1 := ⟨n' - 1, by omega⟩
      rw [jm_wp_succ he]
      exact h2 k (by omega) Q' hQ'
    generalize jm_ef e c.1 c.2.1 c.2.2.1 c.2.2.2 = E at h fin
    match E, h, fin with
    | .inl (s, dl, d), h, fin =>
      have h0 : jm_cj s (jm_dl (fun c' => jm_wp n m c' Q) dl d) := h
      obtain ⟨c', h1, h2⟩ := jm_dl_of (jm_cj_of h0)
      obtain ⟨r, M', h3, h4⟩ := ih m c' Q h1
      exact fin r M' h3 (fun n' hn Q' hQ' => jm_cj_map h0 (fun _ => h2 _ (h4 n' hn Q' hQ')))
    | .inr (.inl (kd, mi, as, rest)), h, fin =>
      have h0 : jm_wp n mi (0, jm_pad as (jm_mi mi).2.2.2.1, [], c.2.2.2) (jm_k (fun st M' => jm_wp n m (c.1 + 1, c.2.1, st, M') Q) rest kd) := h
      obtain ⟨r1, M1, h1, h2⟩ := ih _ _ _ h0
      obtain ⟨st1, M2, h5, h6⟩ := jm_k_of h1
      obtain ⟨r, M', h3, h4⟩ := ih _ _ _ h5
      exact fin r M' h3 (fun n' hn Q' hQ' => h2 n' hn _ (h6 _ (h4 n' hn Q' hQ')))
    | .inr (.inr (s, r, M')), h, fin =>
      have h0 : jm_cj s (Q r M') := h
      exact fin r M' (jm_cj_of h0) (fun n' hn Q' hQ' => jm_cj_map h0 (fun _ => hQ'))
theorem jm_run_det {m : Nat} {c : jm_Cfg} {Q : jm_Q} (h : jm_run m c Q) : ∃ (r : Option jm_V) (M' : jm_Mem), Q r M' ∧ ∃ n, ∀ (n' : Nat), n ≤ n' → ∀ Q' : jm_Q, Q' r M' → jm_wp n' m c Q' := by
  obtain ⟨n, hn⟩ := h
  obtain ⟨r, M', h1, h2⟩ := jm_wp_det n m c Q hn
  exact ⟨r, M', h1, n, h2⟩
theorem jm_run_mono {m : Nat} {c : jm_Cfg} {Q Q' : jm_Q} (h : jm_run m c Q) (f : ∀ r M, Q r M → Q' r M) : jm_run m c Q' := by
  obtain ⟨r, M', h1, n, h2⟩ := jm_run_det h
  exact ⟨n, h2 n (Nat.le_refl _) Q' (f r M' h1)⟩
theorem jm_cl_mono {m : Nat} {as : List jm_V} {M : jm_Mem} {Q Q' : jm_Q} (h : jm_cl m as M Q) (f : ∀ r M, Q r M → Q' r M) : jm_cl m as M Q' := jm_run_mono h f
theorem jm_step {m : Nat} {c : jm_Cfg} {Q : jm_Q} {e : Instr × Nat × Int} (he : jm_rc m c.1 = some e) (h : jm_do jm_cl (fun c' => jm_run m c' Q) Q c.1 c.2.1 c.2.2.2 (jm_ef e c.1 c.2.1 c.2.2.1 c.2.2.2)) : jm_run m c Q := by
  have fin : ∀ n, jm_do (fun mi as M Q => jm_wp n mi (0, jm_pad as (jm_mi mi).2.2.2.1, [], M) Q) (fun c' => jm_wp n m c' Q) Q c.1 c.2.1 c.2.2.2 (jm_ef e c.1 c.2.1 c.2.2.1 c.2.2.2) → jm_run m c Q := fun n hn => ⟨n + 1, by rw [jm_wp_succ he]; exact hn⟩
  generalize jm_ef e c.1 c.2.1 c.2.2.1 c.2.2.2 = E at h fin
  match E, h, fin with
  | .inl (s, dl, d), h, fin =>
    have h0 : jm_cj s (jm_dl (fun c' => jm_run m c' Q) dl d) := h
    obtain ⟨c', ⟨n, h1⟩, h2⟩ := jm_dl_of (jm_cj_of h0)
    exact fin n (jm_cj_map h0 (fun _ => h2 _ h1))
  | .inr (.inl (kd, mi, as, rest)), h, fin =>
    have h0 : jm_run mi (0, jm_pad as (jm_mi mi).2.2.2.1, [], c.2.2.2) (jm_k (fun st M' => jm_run m (c.1 + 1, c.2.1, st, M') Q) rest kd) := h
    obtain ⟨r1, M1, h9, n1, h2⟩ := jm_run_det h0
    obtain ⟨st1, M2, ⟨n2, h1⟩, h6⟩ := jm_k_of h9
    obtain ⟨r, M', h3, h4⟩ := jm_wp_det _ _ _ _ h1
    exact fin (n1 + n2) (h2 (n1 + n2) (by omega) _ (h6 _ (h4 (n1 + n2) (by omega) Q h3)))
  | .inr (.inr (s, r, M')), h, fin => exact fin 0 h
theorem jm_do_mono {m k : Nat} {ls : jm_Ls} {M : jm_Mem} {Q : jm_Q} {w w' : jm_Cfg → Prop} {E : jm_Eff} (f : ∀ c, w c → w' c) (h : jm_do jm_cl w Q k ls M E) : jm_do jm_cl w' Q k ls M E := by
  match E, h with
  | .inl (s, dl, d), h =>
    have h0 : jm_cj s (jm_dl w dl d) := h
    obtain ⟨c', h1, h2⟩ := jm_dl_of (jm_cj_of h0)
    exact jm_cj_map h0 (fun _ => h2 _ (f _ h1))
  | .inr (.inl (kd, mi, as, rest)), h => exact jm_cl_mono h (fun r M h => by
      obtain ⟨st1, M2, h5, h6⟩ := jm_k_of h
      exact h6 _ (f _ h5))
  | .inr (.inr (s, r, M')), h => exact h
/-- a stretch of code, run till the places S -/
def jm_sg : Nat → List Nat → Nat → jm_Q → jm_Cfg → Prop
  | 0, _, m, Q, c => jm_run m c Q
  | j + 1, S, m, Q, c => match jm_rc m c.1 with
    | none => False
    | some e => jm_do jm_cl (fun c' => match jm_mem c'.1 S with
      | true => jm_run m c' Q
      | false => jm_sg j S m Q c') Q c.1 c.2.1 c.2.2.2 (jm_ef e c.1 c.2.1 c.2.2.1 c.2.2.2)
theorem jm_sg_run (j : Nat) (S : List Nat) {m : Nat} {Q : jm_Q} : ∀ {c : jm_Cfg}, jm_sg j S m Q c → jm_run m c Q := by
  induction j with
  | zero => intro c h; exact h
  | succ j ih =>
    intro c h
    rw [jm_sg] at h
    cases he : jm_rc m c.1 with
    | none => rw [he] at h; exact h.elim
    | some e =>
      rw [he] at h
      refine jm_step he (jm_do_mono (m := m) (fun c' hc => ?_) h)
      cases hm : jm_mem c'.1 S with
      | true => rw [hm] at hc; exact hc
      | false => rw [hm] at hc; exact ih hc
