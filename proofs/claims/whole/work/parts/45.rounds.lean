/-! ROUNDS: where there are potentials they come to an end -/
theorem b_pig {α : Type} [DecidableEq α] : ∀ (l Fs : List α), l.Nodup → (∀ u ∈ l, u ∈ Fs) → l.length ≤ Fs.length
  | [], Fs, _, _ => Nat.zero_le _
  | a :: l, Fs, hn, hs => by
    rw [List.nodup_cons] at hn
    have ha := hs a List.mem_cons_self
    have h1 := b_pig l (Fs.erase a) hn.2 (fun u hu => (List.mem_erase_of_ne (fun q => hn.1 (by rw [← q]; exact hu))).2 (hs u (List.mem_cons_of_mem _ hu)))
    rw [List.length_erase_of_mem ha] at h1
    have := List.length_pos_of_mem ha
    rw [List.length_cons]
    omega
/-- labels lie where the arcs lie -/
def b_in (Fs : List Int) (s : b_S) : Prop := ∀ v, s.1 v ≠ none → v ∈ Fs
theorem b_in_t {Fs : List Int} {s : b_S} {x : b_A} (hx : x.2.1 ∈ Fs) (h : b_in Fs s) : b_in Fs (b_t s x) := by
  cases hk : b_ok s.1 x.1 x.2.1 x.2.2.1 with
  | false => rw [b_t_f hk]; exact h
  | true =>
    rw [b_t_t hk]
    intro v hv
    by_cases q : v = x.2.1
    · rw [q]; exact hx
    · dsimp only at hv
      rw [b_pt_o q] at hv
      exact h v hv
theorem b_in_r {Fs : List Int} : ∀ {A : List b_A} {s : b_S}, (∀ x ∈ A, x.2.1 ∈ Fs) → b_in Fs s → b_in Fs (b_r A s)
  | [], s, _, h => h
  | x :: A, s, hA, h => b_in_r (A := A) (s := b_t s x) (fun y hy => hA y (List.mem_cons_of_mem _ hy)) (b_in_t (hA x List.mem_cons_self) h)
theorem b_in_0 {Fs : List Int} {s0 : Int} (h : s0 ∈ Fs) : b_in Fs (b_0 s0) := by
  intro v hv
  unfold b_0 at hv
  dsimp only at hv
  by_cases q : v = s0
  · rw [q]; exact h
  · rw [if_neg q] at hv
    exact absurd rfl hv
theorem b_in_n {Fs : List Int} {A : List b_A} {s : b_S} (hA : ∀ x ∈ A, x.2.1 ∈ Fs) (h : b_in Fs s) : ∀ k, b_in Fs (b_n A k s)
  | 0 => h
  | k + 1 => b_in_r hA (b_in_n hA h k)
/-- one round -/
theorem b_J_round {A : List b_A} {s0 : Int} {k : Nat} {Fs : List Int} (hne : ∀ x ∈ A, x.1 ≠ x.2.1) (hFs : ∀ x ∈ A, x.2.1 ∈ Fs) : ∀ (post pre : List b_A) (s : b_S), pre ++ post = A → b_J A s0 k pre s → b_in Fs s → b_J A s0 k A (b_r post s) ∧ (b_fl post s = true → ∀ π : Int → Int, (∀ y ∈ A, π y.2.1 ≤ π y.1 + y.2.2.1) → k + 2 ≤ Fs.length) := by
  intro post
  induction post with
  | nil =>
    intro pre s hA hJ _
    rw [List.append_nil] at hA
    rw [hA] at hJ
    exact ⟨hJ, fun q => by cases q⟩
  | cons x post ih =>
    intro pre s hA hJ hin
    have hxA : x ∈ A := by rw [← hA]; simp
    obtain ⟨h1, h2⟩ := b_J_step hA (hne x hxA) hJ
    have hin' := b_in_t (s := s) (hFs x hxA) hin
    obtain ⟨h3, h4⟩ := ih (pre ++ [x]) (b_t s x) (by rw [List.append_assoc]; exact hA) h1 hin'
    refine ⟨h3, fun q π hπ => ?_⟩
    have q : (b_ok s.1 x.1 x.2.1 x.2.2.1 || b_fl post (b_t s x)) = true := q
    rw [Bool.or_eq_true] at q
    rcases q with q | q
    · obtain ⟨l, l1, l2, l3⟩ := h2 q π hπ
      have := b_pig l Fs l1 (fun u hu => hin' u (l3 u hu))
      omega
    · exact h4 q π hπ
theorem b_J_n {A : List b_A} {s0 : Int} {Fs : List Int} (hne : ∀ x ∈ A, x.1 ≠ x.2.1) (hFs : ∀ x ∈ A, x.2.1 ∈ Fs) (h0 : s0 ∈ Fs) : ∀ k, b_J A s0 k [] (b_n A k (b_0 s0))
  | 0 => b_J_0 A s0
  | k + 1 => b_J_end (b_J_round hne hFs A [] _ rfl (b_J_n hne hFs h0 k) (b_in_n hFs (b_in_0 h0) k)).1
theorem b_ends {A : List b_A} {s0 : Int} {Fs : List Int} {π : Int → Int} (hne : ∀ x ∈ A, x.1 ≠ x.2.1) (hFs : ∀ x ∈ A, x.2.1 ∈ Fs) (h0 : s0 ∈ Fs) (hπ : ∀ y ∈ A, π y.2.1 ≤ π y.1 + y.2.2.1) {k : Nat} (hk : Fs.length < k + 2) : b_fl A (b_n A k (b_0 s0)) = false := by
  cases hf : b_fl A (b_n A k (b_0 s0)) with
  | false => rfl
  | true =>
    have := (b_J_round hne hFs A [] _ rfl (b_J_n hne hFs h0 k) (b_in_n hFs (b_in_0 h0) k)).2 hf π hπ
    omega
/-! Bounds below by potentials -/
def b_lb (π : Int → Int) (s0 : Int) (s : b_S) : Prop := ∀ v a, s.1 v = some a → π v - π s0 ≤ a
theorem b_lb_t {π : Int → Int} {s0 : Int} {s : b_S} {x : b_A} (hx : π x.2.1 ≤ π x.1 + x.2.2.1) (h : b_lb π s0 s) : b_lb π s0 (b_t s x) := by
  cases hk : b_ok s.1 x.1 x.2.1 x.2.2.1 with
  | false => rw [b_t_f hk]; exact h
  | true =>
    obtain ⟨a, ha, hnw, -⟩ := b_ok_t hk
    rw [b_t_t hk, hnw]
    intro v b hb
    dsimp only at hb
    by_cases q : v = x.2.1
    · rw [q, b_pt_s] at hb
      injection hb with hb
      have := h x.1 a ha
      rw [q]
      omega
    · rw [b_pt_o q] at hb
      exact h v b hb
theorem b_lb_r {π : Int → Int} {s0 : Int} : ∀ {A : List b_A} {s : b_S}, (∀ x ∈ A, π x.2.1 ≤ π x.1 + x.2.2.1) → b_lb π s0 s → b_lb π s0 (b_r A s)
  | [], s, _, h => h
  | x :: A, s, hA, h => b_lb_r (A := A) (s := b_t s x) (fun y hy => hA y (List.mem_cons_of_mem _ hy)) (b_lb_t (hA x List.mem_cons_self) h)
theorem b_lb_0 (π : Int → Int) (s0 : Int) : b_lb π s0 (b_0 s0) := by
  intro v a ha
  unfold b_0 at ha
  dsimp only at ha
  split at ha
  · rename_i q
    injection ha with ha
    rw [q]
    omega
  · cases ha
theorem b_lb_n {π : Int → Int} {s0 : Int} {A : List b_A} (hA : ∀ x ∈ A, π x.2.1 ≤ π x.1 + x.2.2.1) : ∀ k, b_lb π s0 (b_n A k (b_0 s0))
  | 0 => b_lb_0 π s0
  | k + 1 => b_lb_r hA (b_lb_n hA k)
/-! Bounds by steps -/
def b_bd (C t : Int) (s : b_S) : Prop := ∀ v a, s.1 v = some a → -(C * t) ≤ a ∧ a ≤ C * t
theorem b_bd_t {C t : Int} {s : b_S} {x : b_A} (hC : 0 ≤ C) (hx : -C ≤ x.2.2.1 ∧ x.2.2.1 ≤ C) (h : b_bd C t s) : b_bd C (t + 1) (b_t s x) := by
  have e : C * (t + 1) = C * t + C := by rw [Int.mul_add, Int.mul_one]
  have w : b_bd C (t + 1) s := fun v a ha => by
    have := h v a ha
    omega
  cases hk : b_ok s.1 x.1 x.2.1 x.2.2.1 with
  | false => rw [b_t_f hk]; exact w
  | true =>
    obtain ⟨a, ha, hnw, -⟩ := b_ok_t hk
    rw [b_t_t hk, hnw]
    intro v b hb
    dsimp only at hb
    by_cases q : v = x.2.1
    · rw [q, b_pt_s] at hb
      injection hb with hb
      have := h x.1 a ha
      omega
    · rw [b_pt_o q] at hb
      exact w v b hb
/-! Costs, and costs with hops: cost * 65536 + hops -/
def b_K (x : b_A) : b_A := (x.1, x.2.1, 65536 * x.2.2.1 + 1, x.2.2.2)
def b_R (t : Int) (s s' : b_S) : Prop := ∀ v, (s'.1 v = none → s.1 v = none) ∧ ∀ b, s'.1 v = some b → ∃ a n, b = 65536 * a + n ∧ 0 ≤ n ∧ n ≤ t ∧ s.1 v = some a
theorem b_R_mo {t t' : Int} {s s' : b_S} (h : b_R t s s') (ht : t ≤ t') : b_R t' s s' := fun v => ⟨(h v).1, fun b hb => by
  obtain ⟨a, n, h1, h2, h3, h4⟩ := (h v).2 b hb
  exact ⟨a, n, h1, h2, by omega, h4⟩⟩
theorem b_R_0 (s0 : Int) : b_R 0 (b_0 s0) (b_0 s0) := by
  intro v
  unfold b_0
  dsimp only
  split
  · refine ⟨fun q => (by cases q), fun b hb => ?_⟩
    injection hb with hb
    exact ⟨0, 0, by omega, by omega, by omega, rfl⟩
  · exact ⟨fun _ => rfl, fun b hb => (by cases hb)⟩
theorem b_R_none {t : Int} {s s' : b_S} (h : b_R t s s') {v : Int} (hv : s.1 v = none) : s'.1 v = none := by
  cases hb : s'.1 v with
  | none => rfl
  | some b =>
    obtain ⟨a, n, -, -, -, h4⟩ := (h v).2 b hb
    rw [hv] at h4
    cases h4
theorem b_R_t {t : Int} {s s' : b_S} {x : b_A} (ht : t + 1 < 65536) (h : b_R t s s') : b_R (t + 1) (b_t s x) (b_t s' (b_K x)) := by
  have hmo := b_R_mo h (show t ≤ t + 1 by omega)
  cases hk' : b_ok s'.1 (b_K x).1 (b_K x).2.1 (b_K x).2.2.1 with
  | false =>
    rw [b_t_f hk']
    cases hk : b_ok s.1 x.1 x.2.1 x.2.2.1 with
    | false => rw [b_t_f hk]; exact hmo
    | true =>
      obtain ⟨a, ha, hnw, hlt⟩ := b_ok_t hk
      have hs := b_ok_f hk'
      cases hb' : s'.1 x.1 with
      | none =>
        have := (h x.1).1 hb'
        rw [ha] at this
        cases this
      | some b' =>
        obtain ⟨c, hc, hle⟩ := hs b' hb'
        obtain ⟨a1, n1, e1, e2, e3, e4⟩ := (h x.1).2 b' hb'
        obtain ⟨a2, n2, f1, f2, f3, f4⟩ := (h x.2.1).2 c hc
        rw [ha] at e4
        injection e4 with e4
        have := hlt a2 f4
        have hle : c ≤ b' + (65536 * x.2.2.1 + 1) := hle
        omega
  | true =>
    obtain ⟨b', hb', hnw', hlt'⟩ := b_ok_t hk'
    obtain ⟨a1, n1, e1, e2, e3, e4⟩ := (h x.1).2 b' hb'
    rw [b_t_t hk', hnw']
    have hW : (b_K x).2.2.1 = 65536 * x.2.2.1 + 1 := rfl
    have hg : (b_K x).2.1 = x.2.1 := rfl
    rw [hW, hg]
    have lab : (b_t s x).1 x.2.1 = some (a1 + x.2.2.1) ∧ ∀ v, v ≠ x.2.1 → (b_t s x).1 v = s.1 v := by
      cases hk : b_ok s.1 x.1 x.2.1 x.2.2.1 with
      | true =>
        obtain ⟨a, ha, hnw, hlt⟩ := b_ok_t hk
        rw [b_t_t hk, hnw]
        rw [e4] at ha
        injection ha with ha
        rw [← ha]
        exact ⟨b_pt_s _ _ _, fun v hv => b_pt_o hv⟩
      | false =>
        rw [b_t_f hk]
        refine ⟨?_, fun _ _ => rfl⟩
        obtain ⟨c, hc, hle⟩ := b_ok_f hk a1 e4
        cases hc' : s'.1 x.2.1 with
        | none =>
          have := (h x.2.1).1 hc'
          rw [hc] at this
          cases this
        | some c' =>
          obtain ⟨a2, n2, f1, f2, f3, f4⟩ := (h x.2.1).2 c' hc'
          rw [hc] at f4
          injection f4 with f4
          have := hlt' c' hc'
          rw [hc]
          congr 1
          omega
    intro v
    dsimp only
    by_cases q : v = x.2.1
    · rw [q, b_pt_s, lab.1]
      refine ⟨fun r => (by cases r), fun b hb => ?_⟩
      injection hb with hb
      exact ⟨a1 + x.2.2.1, n1 + 1, by omega, by omega, by omega, rfl⟩
    · rw [b_pt_o q, lab.2 v q]
      exact hmo v
theorem b_R_r : ∀ {A : List b_A} {s s' : b_S} {t : Int}, t + (A.length : Int) < 65536 → b_R t s s' → b_R (t + (A.length : Int)) (b_r A s) (b_r (A.map b_K) s')
  | [], s, s', t, _, h => by
    rw [show t + (([] : List b_A).length : Int) = t from Int.add_zero t]
    exact h
  | x :: A, s, s', t, ht, h => by
    rw [List.length_cons] at ht ⊢
    have := b_R_r (A := A) (s := b_t s x) (s' := b_t s' (b_K x)) (t := t + 1) (by omega) (b_R_t (by omega) h)
    rw [show t + ((A.length + 1 : Nat) : Int) = t + 1 + (A.length : Int) by omega]
    exact this
theorem b_R_n {A : List b_A} {s0 : Int} (k : Nat) (hk : (k : Int) * (A.length : Int) < 65536) : b_R ((k : Int) * (A.length : Int)) (b_n A k (b_0 s0)) (b_n (A.map b_K) k (b_0 s0)) := by
  induction k with
  | zero =>
    rw [show ((0 : Nat) : Int) * (A.length : Int) = 0 from Int.zero_mul _]
    exact b_R_0 s0
  | succ k ih =>
    have e : ((k + 1 : Nat) : Int) * (A.length : Int) = (k : Int) * (A.length : Int) + (A.length : Int) := by
      rw [Int.natCast_add, Int.add_mul]
      simp
    rw [e] at hk ⊢
    exact b_R_r hk (ih (by omega))
