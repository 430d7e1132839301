/-! FACES HANG TOGETHER -/
section D1
variable {w h : Int} {sl : Int → Int}
theorem g_half (hg : g_ok w h sl) {Lab : Int → Prop} (hL : ∀ e, g_E w h sl e → g_lf w h sl e ≠ 72 → g_rt w h sl e ≠ 72 → (Lab (g_lf w h sl e) ↔ Lab (g_rt w h sl e))) {n : Int} (hn : g_ce w h n) (hs : sl n ≠ 0) : Lab (2 * n) ↔ Lab (2 * n + 1) := by
  have hm := g_mul hg.1
  have hsb := g_slb hg n
  have := hL (3 * n + 2) (g_E2.2 ⟨hn, by omega⟩)
  rw [g_lf2, g_rt2] at this
  obtain ⟨hcw, hch⟩ := g_cases hg.1
  have hnb : n ≤ 28 := by
    unfold g_ce at hn
    rcases hcw with rfl | rfl | rfl | rfl | rfl <;> omega
  by_cases h1 : sl n = 1
  · rw [if_pos h1, if_pos h1] at this
    exact this (by omega) (by omega)
  · rw [if_neg h1, if_neg h1] at this
    exact (this (by omega) (by omega)).symm
/-- a face at a side of a cell hangs together with its upper one -/
theorem g_side (hg : g_ok w h sl) {Lab : Int → Prop} (hL : ∀ e, g_E w h sl e → g_lf w h sl e ≠ 72 → g_rt w h sl e ≠ 72 → (Lab (g_lf w h sl e) ↔ Lab (g_rt w h sl e))) {n x y sd : Int} (hn : g_ce w h n) (hx : n % w = x) (hy : n / w = y) : (Lab (g_fa w h sl x y sd) ↔ Lab (2 * n)) ∧ g_fa w h sl x y sd ≠ 72 := by
  obtain ⟨hcw, hch⟩ := g_cases hg.1
  have hxy := g_xy hg.1 hn.1 hn.2.1
  have he : y * w + x = n := by
    have := Int.mul_ediv_add_emod n w
    rw [hx, hy, Int.mul_comm] at this
    exact this
  have hnb : n ≤ 28 := by
    unfold g_ce at hn
    rcases hcw with rfl | rfl | rfl | rfl | rfl <;> omega
  have h0 := hn.1
  unfold g_fa
  rw [if_pos ⟨by omega, by omega, by rw [← hx]; exact hn.2.2.1, by rw [← hy]; exact hn.2.2.2⟩, he]
  split
  · rename_i q
    exact ⟨(g_half hg hL hn (by omega)).symm, by omega⟩
  · exact ⟨Iff.rfl, by omega⟩
theorem g_conn0 (hg : g_ok w h sl) {Lab : Int → Prop} (hL : ∀ e, g_E w h sl e → g_lf w h sl e ≠ 72 → g_rt w h sl e ≠ 72 → (Lab (g_lf w h sl e) ↔ Lab (g_rt w h sl e))) (n : Int) (hn : g_ce w h n) : Lab (2 * n) ↔ Lab 0 := by
  obtain ⟨hcw, hch⟩ := g_cases hg.1
  obtain ⟨g1, g2, g3, g4⟩ := id hg.1
  obtain ⟨k, hk⟩ : ∃ k : Nat, n = k := ⟨n.toNat, by have := hn.1; omega⟩
  induction k using Nat.strongRecOn generalizing n with
  | ind k ih =>
    have hxy := g_xy hg.1 hn.1 hn.2.1
    by_cases hx : 0 < n % w
    · have hn1 : g_ce w h (n - 1) ∧ (n - 1) % w = n % w - 1 ∧ (n - 1) / w = n / w ∧ 0 ≤ n - 1 := by
        unfold g_ce at hn ⊢
        rcases hcw with rfl | rfl | rfl | rfl | rfl <;> omega
      obtain ⟨c1, c2, c3, c4⟩ := hn1
      have i1 := ih (n - 1).toNat (by omega) (n - 1) c1 (by omega)
      have s1 := g_side hg hL (sd := 3) hn rfl rfl
      have s2 := g_side hg hL (sd := 1) c1 c2 c3
      have := hL (3 * n + 1) (g_E1.2 ⟨⟨hn.1, hn.2.1⟩, hn.2.2.2⟩)
      rw [g_lf1, g_rt1] at this
      have := this s1.2 s2.2
      rw [← s1.1, this, s2.1, i1]
    · by_cases hy : 0 < n / w
      · have hn1 : g_ce w h (n - w) ∧ (n - w) % w = n % w ∧ (n - w) / w = n / w - 1 ∧ 0 ≤ n - w := by
          unfold g_ce at hn ⊢
          rcases hcw with rfl | rfl | rfl | rfl | rfl <;> omega
        obtain ⟨c1, c2, c3, c4⟩ := hn1
        have i1 := ih (n - w).toNat (by omega) (n - w) c1 (by omega)
        have s1 := g_side hg hL (sd := 0) hn rfl rfl
        have s2 := g_side hg hL (sd := 2) c1 c2 c3
        have := hL (3 * n) (g_E0.2 ⟨⟨hn.1, hn.2.1⟩, hn.2.2.1⟩)
        rw [g_lf0, g_rt0] at this
        have := this s2.2 s1.2
        rw [← s1.1, ← this, s2.1, i1]
      · have : n = 0 := by
          rcases hcw with rfl | rfl | rfl | rfl | rfl <;> omega
        rw [this]
        exact Iff.rfl
/-- all faces inside hang together -/
theorem g_conn (hg : g_ok w h sl) {Lab : Int → Prop} (hL : ∀ e, g_E w h sl e → g_lf w h sl e ≠ 72 → g_rt w h sl e ≠ 72 → (Lab (g_lf w h sl e) ↔ Lab (g_rt w h sl e))) {f : Int} (hf : g_F w h sl f) (h72 : f ≠ 72) : Lab f ↔ Lab 0 := by
  rcases hf with hf | ⟨h0, hc, hs⟩
  · exact absurd hf h72
  · by_cases h2 : f % 2 = 0
    · have := g_conn0 hg hL (f / 2) hc
      rw [show 2 * (f / 2) = f by omega] at this
      exact this
    · have h1 := g_half hg hL hc (by omega)
      have h3 := g_conn0 hg hL (f / 2) hc
      rw [show 2 * (f / 2) + 1 = f by omega] at h1
      rw [← h1, h3]
theorem g_conn72 (hg : g_ok w h sl) {Lab : Int → Prop} (hL : ∀ e, g_E w h sl e → (Lab (g_lf w h sl e) ↔ Lab (g_rt w h sl e))) {f : Int} (hf : g_F w h sl f) : Lab f ↔ Lab 72 := by
  have hm := g_mul hg.1
  obtain ⟨g1, g2, g3, g4⟩ := id hg.1
  have h0 : g_E w h sl (3 * 0) := g_E0.2 ⟨⟨by omega, by omega⟩, by rw [Int.zero_emod]; omega⟩
  have h1 := hL _ h0
  have hc : g_ce w h 0 := ⟨by omega, by omega, by rw [Int.zero_emod]; omega, by rw [Int.zero_ediv]; omega⟩
  have s1 := g_side hg (Lab := Lab) (fun e he _ _ => hL e he) (sd := 0) hc rfl rfl
  rw [g_lf0, g_rt0, g_fa_out (y := 0 / w - 1) (by rw [Int.zero_ediv]; omega), s1.1] at h1
  by_cases h72 : f = 72
  · rw [h72]
  · rw [g_conn hg (fun e he _ _ => hL e he) hf h72, h1]
    exact Iff.rfl
end D1
/-! ARCS OF THE DUAL -/
def b_ar (p q c d : Int → Int) : List Int → List b_A
  | [] => []
  | e :: l => (p e, q e, c e, e) :: (q e, p e, d e, e) :: b_ar p q c d l
theorem b_ar_mem {p q c d : Int → Int} {x : b_A} : ∀ {l : List Int}, x ∈ b_ar p q c d l ↔ ∃ e ∈ l, x = (p e, q e, c e, e) ∨ x = (q e, p e, d e, e)
  | [] => by
    constructor
    · intro h; cases h
    · rintro ⟨e, he, -⟩; cases he
  | e :: l => by
    show x ∈ (p e, q e, c e, e) :: (q e, p e, d e, e) :: b_ar p q c d l ↔ _
    rw [List.mem_cons, List.mem_cons, b_ar_mem]
    constructor
    · rintro (h | h | ⟨a, ha, h⟩)
      · exact ⟨e, List.mem_cons_self, Or.inl h⟩
      · exact ⟨e, List.mem_cons_self, Or.inr h⟩
      · exact ⟨a, List.mem_cons_of_mem _ ha, h⟩
    · rintro ⟨a, ha, h⟩
      rcases List.mem_cons.1 ha with rfl | ha
      · rcases h with h | h
        · exact Or.inl h
        · exact Or.inr (Or.inl h)
      · exact Or.inr (Or.inr ⟨a, ha, h⟩)
theorem b_ar_len {p q c d : Int → Int} : ∀ {l : List Int}, (b_ar p q c d l).length = 2 * l.length
  | [] => rfl
  | e :: l => by
    show ((p e, q e, c e, e) :: (q e, p e, d e, e) :: b_ar p q c d l).length = _
    rw [List.length_cons, List.length_cons, b_ar_len, List.length_cons]
    omega
theorem b_ar_K {p q c d : Int → Int} : ∀ {l : List Int}, (b_ar p q c d l).map b_K = b_ar p q (fun e => 65536 * c e + 1) (fun e => 65536 * d e + 1) l
  | [] => rfl
  | e :: l => by
    show b_K (p e, q e, c e, e) :: b_K (q e, p e, d e, e) :: (b_ar p q c d l).map b_K = _
    rw [b_ar_K]
    rfl
/-- from all labels, and no arc by which one gets less, potentials -/
theorem b_pot {A : List b_A} {L : b_L} (hs : ∀ x ∈ A, b_sat L x) (hl : ∀ x ∈ A, L x.1 ≠ none) : ∀ x ∈ A, (L x.2.1).getD 0 ≤ (L x.1).getD 0 + x.2.2.1 := by
  intro x hx
  obtain ⟨a, ha⟩ := Option.ne_none_iff_exists'.1 (hl x hx)
  obtain ⟨b, hb, hle⟩ := hs x hx a ha
  rw [ha, hb]
  exact hle
/-- where both ways are arcs: labels on one side, labels on the other -/
theorem b_both {p q c d : Int → Int} {l : List Int} {L : b_L} (hs : ∀ x ∈ b_ar p q c d l, b_sat L x) {e : Int} (he : e ∈ l) : L (p e) ≠ none ↔ L (q e) ≠ none := by
  have h1 := hs _ (b_ar_mem.2 ⟨e, he, Or.inl rfl⟩)
  have h2 := hs _ (b_ar_mem.2 ⟨e, he, Or.inr rfl⟩)
  constructor
  · intro h
    obtain ⟨a, ha⟩ := Option.ne_none_iff_exists'.1 h
    obtain ⟨b, hb, -⟩ := h1 a ha
    rw [hb]; simp
  · intro h
    obtain ⟨a, ha⟩ := Option.ne_none_iff_exists'.1 h
    obtain ⟨b, hb, -⟩ := h2 a ha
    rw [hb]; simp
theorem b_src {A : List b_A} {s : b_S} {v : Int} (h : s.1 v ≠ none) : (b_r A s).1 v ≠ none := by
  induction A generalizing s with
  | nil => exact h
  | cons x A ih =>
    refine ih (s := b_t s x) ?_
    cases hk : b_ok s.1 x.1 x.2.1 x.2.2.1 with
    | false => rw [b_t_f hk]; exact h
    | true =>
      rw [b_t_t hk]
      by_cases q : v = x.2.1
      · show b_pt _ _ _ v ≠ none
        rw [q, b_pt_s]; simp
      · show b_pt _ _ _ v ≠ none
        rw [b_pt_o q]; exact h
theorem b_src_n {A : List b_A} {s : b_S} {v : Int} (h : s.1 v ≠ none) : ∀ k, (b_n A k s).1 v ≠ none
  | 0 => h
  | k + 1 => b_src (b_src_n h k)
theorem b_0_s (s0 : Int) : (b_0 s0).1 s0 ≠ none := by
  unfold b_0
  simp
