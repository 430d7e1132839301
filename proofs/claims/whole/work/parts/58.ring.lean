/-! RINGS: where one round more makes a face less, the way back goes round -/
theorem b_php : ∀ (n : Nat) (Fs : List Int) (f : Nat → Int), Fs.length = n → (∀ i, i ≤ n → f i ∈ Fs) → ∃ i j, i < j ∧ j ≤ n ∧ f i = f j := by
  intro n
  induction n with
  | zero =>
    intro Fs f hl hf
    have := List.length_pos_of_mem (hf 0 (Nat.le_refl _))
    omega
  | succ n ih =>
    intro Fs f hl hf
    by_cases hx : ∃ i, i ≤ n ∧ f i = f (n + 1)
    · obtain ⟨i, h1, h2⟩ := hx
      exact ⟨i, n + 1, by omega, Nat.le_refl _, h2⟩
    · have hm := hf (n + 1) (Nat.le_refl _)
      obtain ⟨i, j, h1, h2, h3⟩ := ih (Fs.erase (f (n + 1))) f (by rw [List.length_erase_of_mem hm]; omega) (fun i hi => (List.mem_erase_of_ne (fun q => hx ⟨i, hi, q⟩)).2 (hf i (by omega)))
      exact ⟨i, j, h1, by omega, h3⟩
def g_it (a : Int → Int) : Nat → Int → Int
  | 0, v => v
  | n + 1, v => a (g_it a n v)
theorem g_it_add (a : Int → Int) (m n : Nat) (v : Int) : g_it a (m + n) v = g_it a m (g_it a n v) := by
  induction m with
  | zero => rw [Nat.zero_add]; rfl
  | succ m ih =>
    rw [show m + 1 + n = (m + n) + 1 by omega]
    show a (g_it a (m + n) v) = a (g_it a m (g_it a n v))
    rw [ih]
/-- the face back -/
def g_ah (w h : Int) (sl fm : Int → Int) (v : Int) : Int := if g_lf w h sl (fm v) = v then g_rt w h sl (fm v) else g_lf w h sl (fm v)
theorem b_ff_of : ∀ {A : List b_A} {s s' : b_S} {g : Int}, b_ff A s = some (s', g) → ∃ pre x post, A = pre ++ x :: post ∧ b_r pre s = s ∧ b_ok s.1 x.1 x.2.1 x.2.2.1 = true ∧ s' = b_t s x ∧ g = x.2.1
  | [], s, s', g, h => by cases h
  | x :: A, s, s', g, h => by
    have h : (if b_ok s.1 x.1 x.2.1 x.2.2.1 = true then some (b_t s x, x.2.1) else b_ff A s) = some (s', g) := h
    cases hk : b_ok s.1 x.1 x.2.1 x.2.2.1 with
    | true =>
      rw [if_pos hk] at h
      injection h with h
      injection h with h1 h2
      exact ⟨[], x, A, rfl, rfl, hk, h1.symm, h2.symm⟩
    | false =>
      rw [if_neg (by rw [hk]; simp)] at h
      obtain ⟨pre, y, post, h1, h2, h3, h4, h5⟩ := b_ff_of h
      refine ⟨x :: pre, y, post, by rw [h1]; rfl, ?_, h3, h4, h5⟩
      show b_r pre (b_t s x) = s
      rw [b_t_f hk]
      exact h2
theorem b_J_pre {A : List b_A} {s0 : Int} {k : Nat} (hne : ∀ x ∈ A, x.1 ≠ x.2.1) : ∀ (todo done rest : List b_A) (s : b_S), done ++ todo ++ rest = A → b_J A s0 k done s → b_J A s0 k (done ++ todo) (b_r todo s) := by
  intro todo
  induction todo with
  | nil =>
    intro done rest s _ hJ
    rw [List.append_nil]
    exact hJ
  | cons x todo ih =>
    intro done rest s hA hJ
    have hA2 : done ++ x :: (todo ++ rest) = A := by
      rw [← hA, List.append_assoc]
      rfl
    have hxA : x ∈ A := by rw [← hA2]; simp
    have := ih (done ++ [x]) rest (b_t s x) (by rw [← hA]; simp) (b_J_step hA2 (hne x hxA) hJ).1
    rw [List.append_assoc] at this
    exact this
/-- where it fires, rounds go back one by one -/
theorem b_fire {A : List b_A} {s0 : Int} {k : Nat} {pre : List b_A} {x : b_A} {s : b_S} (hxA : x ∈ A) (hx : x.1 ≠ x.2.1) (hok : b_ok s.1 x.1 x.2.1 x.2.2.1 = true) (hJ : b_J A s0 k pre s) : ∃ r : Int → Nat, r x.2.1 = k + 1 ∧ ∀ v, 1 ≤ r v → (b_t s x).1 v ≠ none ∧ ∃ y ∈ A, y.2.1 = v ∧ (b_t s x).2 v = y.2.2.2 ∧ r v ≤ r y.1 + 1 := by
  obtain ⟨r, P, h1, h2, h3, h4, h5, h6, h7, h8, h9⟩ := hJ
  have hrf : k ≤ r x.1 := by
    apply Nat.le_of_not_lt
    intro q
    have := b_sat_f (h3 x hxA q)
    rw [this] at hok
    cases hok
  refine ⟨fun v => if v = x.2.1 then k + 1 else r v, if_pos rfl, ?_⟩
  rw [b_t_t hok]
  intro v hr
  dsimp only at hr ⊢
  by_cases q : v = x.2.1
  · rw [if_pos q, q, b_pt_s, jm_up_s]
    refine ⟨by simp, x, hxA, rfl, rfl, ?_⟩
    rw [if_neg hx]
    omega
  · rw [if_neg q] at hr ⊢
    obtain ⟨g1, y, g2, g3, g4, g5, g6⟩ := h6 v hr
    rw [b_pt_o q, jm_up_o q]
    refine ⟨g1, y, g2, g3, g4, ?_⟩
    by_cases q2 : y.1 = x.2.1
    · rw [if_pos q2]
      have := h1 v
      omega
    · rw [if_neg q2]
      exact g5
section G1
variable {w h : Int} {sl fo ba : Int → Int}
/-- a face that tells the edge by which it was come to -/
def g_tl (w h : Int) (sl fm : Int → Int) (v : Int) : Prop := g_F w h sl v ∧ g_E w h sl (fm v) ∧ (g_lf w h sl (fm v) = v ∨ g_rt w h sl (fm v) = v)
theorem g_ring (hg : g_ok w h sl) {s' : b_S} {g : Int} (hff : b_ff (g_fw w h sl fo ba) (b_n (g_fw w h sl fo ba) (g_fs w h sl).length (b_0 72)) = some (s', g)) : (∀ n, g_tl w h sl s'.2 (g_it (g_ah w h sl s'.2) n g)) ∧ ∃ p, 1 ≤ p ∧ p ≤ (g_fs w h sl).length ∧ g_it (g_ah w h sl s'.2) p (g_it (g_ah w h sl s'.2) (g_fs w h sl).length g) = g_it (g_ah w h sl s'.2) (g_fs w h sl).length g := by
  obtain ⟨pre, x, post, hA, hpre, hok, hs', hgx⟩ := b_ff_of hff
  have h72 : (72 : Int) ∈ g_fs w h sl := (g_fs_mem hg).2 (Or.inl rfl)
  have hxA : x ∈ g_fw w h sl fo ba := by rw [hA]; simp
  have hJ := b_J_pre (g_fw_ne hg) pre [] (x :: post) _ hA.symm (b_J_n (A := g_fw w h sl fo ba) (s0 := 72) (g_fw_ne hg) (g_fw_fs hg) h72 (g_fs w h sl).length)
  rw [hpre] at hJ
  obtain ⟨r, hr1, hr2⟩ := b_fire hxA (g_fw_ne hg x hxA) hok hJ
  rw [← hgx] at hr1
  rw [← hs'] at hr2
  have hin : b_in (g_fs w h sl) s' := by
    rw [hs']
    exact b_in_t (g_fw_fs hg x hxA) (b_in_n (g_fw_fs hg) (b_in_0 h72) _)
  have one : ∀ v, 1 ≤ r v → g_tl w h sl s'.2 v ∧ r v ≤ r (g_ah w h sl s'.2 v) + 1 := by
    intro v hv
    obtain ⟨q1, y, q2, q3, q4, q5⟩ := hr2 v hv
    have hF := (g_fs_mem hg).1 (hin v q1)
    obtain ⟨e, he, rfl | rfl⟩ := b_ar_mem.1 q2
    · have hE := (g_el_mem hg.1).1 he
      have q4 : s'.2 v = e := q4
      have q3 : g_rt w h sl e = v := q3
      have q5 : r v ≤ r (g_lf w h sl e) + 1 := q5
      have htwo := g_two hg.1 hE
      unfold g_tl g_ah
      rw [q4, if_neg (fun z => htwo (z.trans q3.symm))]
      exact ⟨⟨hF, hE, Or.inr q3⟩, q5⟩
    · have hE := (g_el_mem hg.1).1 he
      have q4 : s'.2 v = e := q4
      have q3 : g_lf w h sl e = v := q3
      have q5 : r v ≤ r (g_rt w h sl e) + 1 := q5
      unfold g_tl g_ah
      rw [q4, if_pos q3]
      exact ⟨⟨hF, hE, Or.inl q3⟩, q5⟩
  have chain : ∀ j, j ≤ (g_fs w h sl).length → (g_fs w h sl).length + 1 - j ≤ r (g_it (g_ah w h sl s'.2) j g) := by
    intro j
    induction j with
    | zero =>
      intro _
      show _ ≤ r g
      omega
    | succ j ih =>
      intro hj
      have h1 := ih (by omega)
      have h2 := (one _ (show 1 ≤ r (g_it (g_ah w h sl s'.2) j g) by omega)).2
      show _ ≤ r (g_ah w h sl s'.2 (g_it (g_ah w h sl s'.2) j g))
      omega
  have tl : ∀ j, j ≤ (g_fs w h sl).length → g_tl w h sl s'.2 (g_it (g_ah w h sl s'.2) j g) := fun j hj => (one _ (by have := chain j hj; omega)).1
  obtain ⟨i, j, hij, hj, heq⟩ := b_php (g_fs w h sl).length (g_fs w h sl) (fun j => g_it (g_ah w h sl s'.2) j g) rfl (fun j hj => (g_fs_mem hg).2 (tl j hj).1)
  have per : ∀ m, g_it (g_ah w h sl s'.2) (m + j) g = g_it (g_ah w h sl s'.2) (m + i) g := by
    intro m
    rw [g_it_add, g_it_add, heq]
  constructor
  · intro n
    induction n using Nat.strongRecOn with
    | ind n ih =>
      by_cases hn : n ≤ (g_fs w h sl).length
      · exact tl n hn
      · have := per (n - j)
        rw [show n - j + j = n by omega] at this
        rw [this]
        exact ih _ (by omega)
  · refine ⟨j - i, by omega, by omega, ?_⟩
    rw [← g_it_add]
    have := per ((g_fs w h sl).length - i)
    rw [show (g_fs w h sl).length - i + j = j - i + (g_fs w h sl).length by omega, show (g_fs w h sl).length - i + i = (g_fs w h sl).length by omega] at this
    exact this
end G1
/-- what a ring costs -/
def g_rc (w h : Int) (sl fo ba fm : Int → Int) (u : Int) : Nat → Int
  | 0 => 0
  | n + 1 => g_rc w h sl fo ba fm u n + (if g_rt w h sl (fm (g_it (g_ah w h sl fm) n u)) = g_it (g_ah w h sl fm) n u then fo (fm (g_it (g_ah w h sl fm) n u)) else ba (fm (g_it (g_ah w h sl fm) n u)))
theorem g_rc_b {w h : Int} {sl fo ba fm : Int → Int} {u : Int} (hbo : g_bo fo ba) : ∀ n : Nat, -(100 * (n : Int)) ≤ g_rc w h sl fo ba fm u n ∧ g_rc w h sl fo ba fm u n ≤ 100 * (n : Int)
  | 0 => by
    show -(100 * ((0 : Nat) : Int)) ≤ 0 ∧ 0 ≤ 100 * ((0 : Nat) : Int)
    omega
  | n + 1 => by
    have := g_rc_b (w := w) (h := h) (sl := sl) (fm := fm) (u := u) hbo n
    have hb := hbo (fm (g_it (g_ah w h sl fm) n u))
    show -(100 * ((n + 1 : Nat) : Int)) ≤ g_rc w h sl fo ba fm u n + (if _ then _ else _) ∧ g_rc w h sl fo ba fm u n + (if _ then _ else _) ≤ 100 * ((n + 1 : Nat) : Int)
    split <;> omega
