/-! LEAST COSTS BY ROUNDS: labels, arcs (from, to, cost, edge), one after the other -/
abbrev b_L : Type := Int → Option Int
abbrev b_S : Type := b_L × (Int → Int)
abbrev b_A : Type := Int × Int × Int × Int
def b_ok (L : b_L) (f g W : Int) : Bool := match L f with
  | none => false
  | some a => match L g with
    | none => true
    | some b => decide (a + W < b)
def b_nw (L : b_L) (f W : Int) : Int := (L f).getD 0 + W
def b_pt (L : b_L) (g v : Int) : b_L := fun x => if x = g then some v else L x
def b_t (s : b_S) (x : b_A) : b_S := if b_ok s.1 x.1 x.2.1 x.2.2.1 = true then (b_pt s.1 x.2.1 (b_nw s.1 x.1 x.2.2.1), jm_up s.2 x.2.1 x.2.2.2) else s
def b_r (A : List b_A) (s : b_S) : b_S := A.foldl b_t s
def b_fl : List b_A → b_S → Bool
  | [], _ => false
  | x :: A, s => b_ok s.1 x.1 x.2.1 x.2.2.1 || b_fl A (b_t s x)
def b_n (A : List b_A) : Nat → b_S → b_S
  | 0, s => s
  | k + 1, s => b_r A (b_n A k s)
def b_0 (s0 : Int) : b_S := (fun x => if x = s0 then some 0 else none, fun _ => -1)
/-- an arc by which nothing gets less -/
def b_sat (L : b_L) (x : b_A) : Prop := ∀ a, L x.1 = some a → ∃ b, L x.2.1 = some b ∧ b ≤ a + x.2.2.1
theorem b_ok_t {L : b_L} {f g W : Int} (h : b_ok L f g W = true) : ∃ a, L f = some a ∧ b_nw L f W = a + W ∧ ∀ b, L g = some b → a + W < b := by
  unfold b_ok at h
  cases hf : L f with
  | none => rw [hf] at h; cases h
  | some a =>
    rw [hf] at h
    refine ⟨a, rfl, by unfold b_nw; rw [hf]; rfl, ?_⟩
    intro b hb
    rw [hb] at h
    exact of_decide_eq_true h
theorem b_ok_f {L : b_L} {x : b_A} (h : b_ok L x.1 x.2.1 x.2.2.1 = false) : b_sat L x := by
  intro a ha
  unfold b_ok at h
  rw [ha] at h
  cases hg : L x.2.1 with
  | none => rw [hg] at h; cases h
  | some b =>
    rw [hg] at h
    have := of_decide_eq_false h
    exact ⟨b, rfl, by omega⟩
theorem b_sat_f {L : b_L} {x : b_A} (h : b_sat L x) : b_ok L x.1 x.2.1 x.2.2.1 = false := by
  cases hk : b_ok L x.1 x.2.1 x.2.2.1 with
  | false => rfl
  | true =>
    obtain ⟨a, h1, -, h2⟩ := b_ok_t hk
    obtain ⟨b, h3, h4⟩ := h a h1
    have := h2 b h3
    omega
theorem b_t_f {s : b_S} {x : b_A} (h : b_ok s.1 x.1 x.2.1 x.2.2.1 = false) : b_t s x = s := by
  unfold b_t
  rw [h]
  rfl
theorem b_t_t {s : b_S} {x : b_A} (h : b_ok s.1 x.1 x.2.1 x.2.2.1 = true) : b_t s x = (b_pt s.1 x.2.1 (b_nw s.1 x.1 x.2.2.1), jm_up s.2 x.2.1 x.2.2.2) := by
  unfold b_t
  rw [if_pos h]
theorem b_pt_s (L : b_L) (g v : Int) : b_pt L g v g = some v := if_pos rfl
theorem b_pt_o {L : b_L} {g v x : Int} (h : x ≠ g) : b_pt L g v x = L x := if_neg h
theorem b_fl_f : ∀ {A : List b_A} {s : b_S}, b_fl A s = false → b_r A s = s ∧ ∀ x ∈ A, b_sat s.1 x
  | [], s, _ => ⟨rfl, fun x hx => nomatch hx⟩
  | x :: A, s, h => by
    have h : (b_ok s.1 x.1 x.2.1 x.2.2.1 || b_fl A (b_t s x)) = false := h
    rw [Bool.or_eq_false_iff] at h
    have e := b_t_f h.1
    rw [e] at h
    obtain ⟨h1, h2⟩ := b_fl_f h.2
    constructor
    · show b_r A (b_t s x) = s
      rw [e]
      exact h1
    · intro y hy
      rcases List.mem_cons.1 hy with rfl | hy
      · exact b_ok_f h.1
      · exact h2 y hy
theorem b_fl_s : ∀ {A : List b_A} {s : b_S}, (∀ x ∈ A, b_sat s.1 x) → b_fl A s = false
  | [], s, _ => rfl
  | x :: A, s, h => by
    have h1 := b_sat_f (h x List.mem_cons_self)
    show (b_ok s.1 x.1 x.2.1 x.2.2.1 || b_fl A (b_t s x)) = false
    rw [b_t_f h1, h1, Bool.false_or]
    exact b_fl_s (fun y hy => h y (List.mem_cons_of_mem _ hy))
theorem b_r_app (A B : List b_A) (s : b_S) : b_r (A ++ B) s = b_r B (b_r A s) := List.foldl_append
theorem b_fl_app : ∀ (A B : List b_A) (s : b_S), b_fl (A ++ B) s = (b_fl A s || b_fl B (b_r A s))
  | [], B, s => by rw [List.nil_append]; exact (Bool.false_or _).symm
  | x :: A, B, s => by
    show (b_ok s.1 x.1 x.2.1 x.2.2.1 || b_fl (A ++ B) (b_t s x)) = _
    rw [b_fl_app A B, ← Bool.or_assoc]
    rfl
/-- once nothing gets less, nothing does -/
theorem b_n_stop {A : List b_A} {s : b_S} {k : Nat} (h : b_fl A (b_n A k s) = false) : ∀ j, k ≤ j → b_n A j s = b_n A k s := by
  intro j hj
  induction j with
  | zero => rw [show k = 0 by omega]
  | succ j ih =>
    by_cases hk : k ≤ j
    · show b_r A (b_n A j s) = _
      rw [ih hk]
      exact (b_fl_f h).1
    · rw [show k = j + 1 by omega]
theorem b_n_stop2 {A : List b_A} {s : b_S} {k j : Nat} (h : b_fl A (b_n A k s) = false) (hj : k ≤ j) : b_fl A (b_n A j s) = false := by
  rw [b_n_stop h j hj]
  exact h
/-! How far back a label comes from: rounds, rows of places -/
def b_J (A : List b_A) (s0 : Int) (k : Nat) (pre : List b_A) (s : b_S) : Prop := ∃ (r : Int → Nat) (P : Int → List Int),
  (∀ v, r v ≤ k + 1) ∧ (pre = [] → ∀ v, r v ≤ k) ∧
  (∀ x ∈ A, r x.1 < k → b_sat s.1 x) ∧ (∀ x ∈ pre, r x.1 ≤ k → b_sat s.1 x) ∧
  (∀ v, s.1 v ≠ none → r v = 0 → v = s0) ∧
  (∀ v, 1 ≤ r v → s.1 v ≠ none ∧ ∃ x ∈ A, x.2.1 = v ∧ s.2 v = x.2.2.2 ∧ r v ≤ r x.1 + 1 ∧ s.1 x.1 ≠ none) ∧
  (∀ v, s.1 v ≠ none → r v + 1 ≤ (P v).length ∧ v ∈ P v ∧ ∀ u ∈ P v, s.1 u ≠ none) ∧
  (∀ π : Int → Int, (∀ x ∈ A, π x.2.1 ≤ π x.1 + x.2.2.1) → ∀ v b, s.1 v = some b → (P v).Nodup ∧ ∀ u ∈ P v, ∀ a, s.1 u = some a → a - π u ≤ b - π v) ∧
  ((∀ x ∈ A, x.2.2.1 % 65536 = 1) → ∀ v b, s.1 v = some b → (b - ((P v).length : Int) + 1) % 65536 = 0)
theorem b_J_0 (A : List b_A) (s0 : Int) : b_J A s0 0 [] (b_0 s0) := by
  refine ⟨fun _ => 0, fun v => [v], fun _ => Nat.zero_le _, fun _ _ => Nat.zero_le _, fun x _ h => absurd h (Nat.not_lt_zero _), fun x hx => (nomatch hx), ?_, fun v h => absurd h (Nat.not_succ_le_zero _), ?_, ?_, ?_⟩
  · intro v h _
    unfold b_0 at h
    dsimp only at h
    by_cases hv : v = s0
    · exact hv
    · rw [if_neg hv] at h
      exact absurd rfl h
  · intro v h
    refine ⟨Nat.le_refl _, List.mem_singleton.2 rfl, ?_⟩
    intro u hu
    rw [List.mem_singleton.1 hu]
    exact h
  · intro π _ v b hb
    refine ⟨List.nodup_cons.2 ⟨List.not_mem_nil, List.nodup_nil⟩, ?_⟩
    intro u hu a ha
    rw [List.mem_singleton.1 hu] at ha ⊢
    rw [hb] at ha
    injection ha with ha
    omega
  · intro _ v b hb
    unfold b_0 at hb
    dsimp only at hb
    split at hb
    · injection hb with hb
      rw [← hb]
      rfl
    · cases hb
theorem b_J_end {A : List b_A} {s0 : Int} {k : Nat} {s : b_S} (h : b_J A s0 k A s) : b_J A s0 (k + 1) [] s := by
  obtain ⟨r, P, h1, h2, h3, h4, h5⟩ := h
  exact ⟨r, P, fun v => by have := h1 v; omega, fun _ => h1, fun x hx hr => h4 x hx (by omega), fun x hx => (nomatch hx), h5⟩
/-- one arc: what is known goes on; if something gets less by it, a long row leads there -/
theorem b_J_step {A : List b_A} {s0 : Int} {k : Nat} {pre post : List b_A} {x : b_A} {s : b_S} (hA : pre ++ x :: post = A) (hx : x.1 ≠ x.2.1) (h : b_J A s0 k pre s) : b_J A s0 k (pre ++ [x]) (b_t s x) ∧ (b_ok s.1 x.1 x.2.1 x.2.2.1 = true → ∀ π : Int → Int, (∀ y ∈ A, π y.2.1 ≤ π y.1 + y.2.2.1) → ∃ l : List Int, l.Nodup ∧ k + 2 ≤ l.length ∧ ∀ u ∈ l, (b_t s x).1 u ≠ none) := by
  obtain ⟨r, P, h1, h2, h3, h4, h5, h6, h7, h8, h9⟩ := h
  have hxA : x ∈ A := by rw [← hA]; simp
  cases hk : b_ok s.1 x.1 x.2.1 x.2.2.1 with
  | false =>
    rw [b_t_f hk]
    refine ⟨⟨r, P, h1, fun q => absurd q (by simp), h3, ?_, h5, h6, h7, h8, h9⟩, fun q => by cases q⟩
    intro y hy hr
    rcases List.mem_append.1 hy with hy | hy
    · exact h4 y hy hr
    · rw [List.mem_singleton.1 hy]
      exact b_ok_f hk
  | true =>
    rw [b_t_t hk]
    obtain ⟨a, ha, hnw, hlt⟩ := b_ok_t hk
    have hrf : k ≤ r x.1 := by
      apply Nat.le_of_not_lt
      intro q
      have := b_sat_f (h3 x hxA q)
      rw [this] at hk
      cases hk
    have hgx : x.2.1 ≠ x.1 := Ne.symm hx
    rw [hnw]
    have hne : ∀ v, s.1 v ≠ none → b_pt s.1 x.2.1 (a + x.2.2.1) v ≠ none := by
      intro v hv
      by_cases q : v = x.2.1
      · rw [q, b_pt_s]; simp
      · rw [b_pt_o q]; exact hv
    have hsat : ∀ y : b_A, y.1 ≠ x.2.1 → b_sat s.1 y → b_sat (b_pt s.1 x.2.1 (a + x.2.2.1)) y := by
      intro y hy hs c hc
      rw [b_pt_o hy] at hc
      obtain ⟨b, hb, hle⟩ := hs c hc
      by_cases q : y.2.1 = x.2.1
      · rw [q] at hb ⊢
        have := hlt b hb
        exact ⟨_, b_pt_s _ _ _, by omega⟩
      · exact ⟨b, by rw [b_pt_o q]; exact hb, hle⟩
    have hPx := h7 x.1 (by rw [ha]; simp)
    have key : b_J A s0 k (pre ++ [x]) (b_pt s.1 x.2.1 (a + x.2.2.1), jm_up s.2 x.2.1 x.2.2.2) ∧ (∀ π : Int → Int, (∀ y ∈ A, π y.2.1 ≤ π y.1 + y.2.2.1) → (x.2.1 :: P x.1).Nodup) := by
      have nod : ∀ π : Int → Int, (∀ y ∈ A, π y.2.1 ≤ π y.1 + y.2.2.1) → x.2.1 ∉ P x.1 := by
        intro π hπ q
        obtain ⟨-, h8b⟩ := h8 π hπ x.1 a ha
        have hq := hPx.2.2 _ q
        obtain ⟨b, hb⟩ := Option.ne_none_iff_exists'.1 hq
        have e1 := h8b _ q b hb
        have e2 := hlt b hb
        have e3 := hπ x hxA
        omega
      refine ⟨⟨fun v => if v = x.2.1 then k + 1 else r v, fun v => if v = x.2.1 then x.2.1 :: P x.1 else P v, ?_, fun q => absurd q (by simp), ?_, ?_, ?_, ?_, ?_, ?_, ?_⟩, fun π hπ => List.nodup_cons.2 ⟨nod π hπ, (h8 π hπ x.1 a ha).1⟩⟩
      · intro v
        dsimp only
        split
        · omega
        · exact h1 v
      · intro y hy hr
        dsimp only at hr
        by_cases q : y.1 = x.2.1
        · rw [if_pos q] at hr
          omega
        · rw [if_neg q] at hr
          exact hsat y q (h3 y hy hr)
      · intro y hy hr
        dsimp only at hr
        by_cases q : y.1 = x.2.1
        · rw [if_pos q] at hr
          omega
        · rw [if_neg q] at hr
          rcases List.mem_append.1 hy with hy | hy
          · exact hsat y q (h4 y hy hr)
          · rw [List.mem_singleton.1 hy]
            intro c hc
            dsimp only at hc ⊢
            rw [b_pt_o hx] at hc
            rw [ha] at hc
            injection hc with hc
            exact ⟨_, b_pt_s _ _ _, by omega⟩
      · intro v hv hr
        dsimp only at hv hr
        by_cases q : v = x.2.1
        · rw [if_pos q] at hr
          omega
        · rw [if_neg q] at hr
          rw [b_pt_o q] at hv
          exact h5 v hv hr
      · intro v hr
        dsimp only at hr ⊢
        by_cases q : v = x.2.1
        · rw [if_pos q, q, b_pt_s, jm_up_s]
          refine ⟨by simp, x, hxA, rfl, rfl, ?_, ?_⟩
          · rw [if_neg hx]
            omega
          · exact hne _ (by rw [ha]; simp)
        · rw [if_neg q] at hr ⊢
          obtain ⟨g1, y, g2, g3, g4, g5, g6⟩ := h6 v hr
          rw [b_pt_o q, jm_up_o q]
          refine ⟨g1, y, g2, g3, g4, ?_, hne _ g6⟩
          by_cases q2 : y.1 = x.2.1
          · rw [if_pos q2]
            have := h1 v
            omega
          · rw [if_neg q2]
            exact g5
      · intro v hv
        dsimp only at hv ⊢
        by_cases q : v = x.2.1
        · rw [if_pos q, if_pos q, List.length_cons]
          refine ⟨by omega, by rw [q]; exact List.mem_cons_self, ?_⟩
          intro u hu
          rcases List.mem_cons.1 hu with rfl | hu
          · rw [b_pt_s]; simp
          · exact hne u (hPx.2.2 u hu)
        · rw [if_neg q, if_neg q]
          rw [b_pt_o q] at hv
          obtain ⟨g1, g2, g3⟩ := h7 v hv
          exact ⟨g1, g2, fun u hu => hne u (g3 u hu)⟩
      · intro π hπ v b hb
        dsimp only at hb ⊢
        have nw : ∀ u c, b_pt s.1 x.2.1 (a + x.2.2.1) u = some c → s.1 u ≠ none → ∃ c', s.1 u = some c' ∧ c ≤ c' := by
          intro u c hc hu
          obtain ⟨c', hc'⟩ := Option.ne_none_iff_exists'.1 hu
          refine ⟨c', hc', ?_⟩
          by_cases q : u = x.2.1
          · rw [q, b_pt_s] at hc
            injection hc with hc
            rw [q] at hc'
            have := hlt c' hc'
            omega
          · rw [b_pt_o q, hc'] at hc
            injection hc with hc
            omega
        by_cases q : v = x.2.1
        · rw [if_pos q]
          rw [q, b_pt_s] at hb
          injection hb with hb
          refine ⟨List.nodup_cons.2 ⟨nod π hπ, (h8 π hπ x.1 a ha).1⟩, ?_⟩
          intro u hu c hc
          rcases List.mem_cons.1 hu with rfl | hu
          · rw [b_pt_s] at hc
            injection hc with hc
            rw [q]
            omega
          · obtain ⟨c', hc', hle⟩ := nw u c hc (hPx.2.2 u hu)
            have e1 := (h8 π hπ x.1 a ha).2 u hu c' hc'
            have e2 := hπ x hxA
            rw [q]
            omega
        · rw [if_neg q]
          rw [b_pt_o q] at hb
          obtain ⟨g1, g2⟩ := h8 π hπ v b hb
          refine ⟨g1, ?_⟩
          intro u hu c hc
          obtain ⟨c', hc', hle⟩ := nw u c hc ((h7 v (by rw [hb]; simp)).2.2 u hu)
          have := g2 u hu c' hc'
          omega
      · intro hW v b hb
        dsimp only at hb ⊢
        by_cases q : v = x.2.1
        · rw [if_pos q, List.length_cons]
          rw [q, b_pt_s] at hb
          injection hb with hb
          have e1 := h9 hW x.1 a ha
          have e2 := hW x hxA
          omega
        · rw [if_neg q]
          rw [b_pt_o q] at hb
          exact h9 hW v b hb
    refine ⟨key.1, fun _ π hπ => ⟨x.2.1 :: P x.1, key.2 π hπ, ?_, ?_⟩⟩
    · rw [List.length_cons]
      omega
    · intro u hu
      rcases List.mem_cons.1 hu with rfl | hu
      · show b_pt s.1 _ (a + x.2.2.1) _ ≠ none
        rw [b_pt_s]; simp
      · exact hne u (hPx.2.2 u hu)
