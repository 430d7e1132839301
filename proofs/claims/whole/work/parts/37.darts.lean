/-! DARTS: the edge at a node in a direction (0 up, on clockwise) -/
def g_at (w h : Int) (sl : Int → Int) (n d : Int) : Int :=
  if d = 0 then (if 0 < n / w then 3 * (n - w) + 1 else -1)
  else if d = 1 then (if 0 < n / w ∧ n % w < w - 1 ∧ sl (n - w) = 2 then 3 * (n - w) + 2 else -1)
  else if d = 2 then (if n % w < w - 1 then 3 * n else -1)
  else if d = 3 then (if n % w < w - 1 ∧ n / w < h - 1 ∧ sl n = 1 then 3 * n + 2 else -1)
  else if d = 4 then (if n / w < h - 1 then 3 * n + 1 else -1)
  else if d = 5 then (if 0 < n % w ∧ n / w < h - 1 ∧ sl (n - 1) = 2 then 3 * (n - 1) + 2 else -1)
  else if d = 6 then (if 0 < n % w then 3 * (n - 1) else -1)
  else (if 0 < n % w ∧ 0 < n / w ∧ sl (n - w - 1) = 1 then 3 * (n - w - 1) + 2 else -1)
theorem g_slb {w h : Int} {sl : Int → Int} (hg : g_ok w h sl) (n : Int) : 0 ≤ sl n ∧ sl n ≤ 2 := ⟨(hg.2 n).1, (hg.2 n).2.1⟩
/-- where an edge comes from, and where it goes to, it is the dart -/
theorem g_at_e {w h : Int} {sl : Int → Int} (hg : g_ok w h sl) {e : Int} (he : g_E w h sl e) : g_at w h sl (g_fr sl e) (g_di sl e) = e ∧ g_at w h sl (g_to w sl e) ((g_di sl e + 4) % 8) = e := by
  obtain ⟨hw, hh⟩ := g_cases hg.1
  obtain ⟨n, he⟩ := g_split he
  rcases he with ⟨rfl, h1, h2⟩ | ⟨rfl, h1, h2⟩ | ⟨rfl, h1, h2⟩
  · rw [g_fr0, g_to0, g_di0]
    unfold g_at
    refine ⟨by rw [if_neg (by omega), if_neg (by omega), if_pos rfl, if_pos h2], ?_⟩
    rw [if_neg (by omega), if_neg (by omega), if_neg (by omega), if_neg (by omega), if_neg (by omega), if_neg (by omega), if_pos (by omega), if_pos ?_]
    · omega
    · unfold g_nd at h1
      rcases hw with rfl | rfl | rfl | rfl | rfl <;> omega
  · rw [g_fr1, g_to1, g_di1]
    unfold g_at
    refine ⟨by rw [if_neg (by omega), if_neg (by omega), if_neg (by omega), if_neg (by omega), if_pos rfl, if_pos h2], ?_⟩
    rw [if_pos (by omega), if_pos ?_]
    · omega
    · unfold g_nd at h1
      rcases hw with rfl | rfl | rfl | rfl | rfl <;> omega
  · rw [g_fr2, g_to2, g_di2]
    have hs := g_slb hg n
    by_cases hb : sl n = 2
    · rw [if_pos hb, if_pos hb, if_neg (by omega)]
      unfold g_at
      constructor
      · rw [if_neg (by omega), if_neg (by omega), if_neg (by omega), if_neg (by omega), if_neg (by omega), if_pos (by omega), if_pos ?_]
        · omega
        · have : n + 1 - 1 = n := by omega
          rw [this]
          unfold g_ce at h1
          rcases hw with rfl | rfl | rfl | rfl | rfl <;> omega
      · rw [if_neg (by omega), if_pos (by omega), if_pos ?_]
        · omega
        · have : n + w - w = n := by omega
          rw [this]
          unfold g_ce at h1
          rcases hw with rfl | rfl | rfl | rfl | rfl <;> omega
    · rw [if_neg hb, if_neg hb, if_pos (by omega)]
      unfold g_at
      unfold g_ce at h1
      constructor
      · rw [if_neg (by omega), if_neg (by omega), if_neg (by omega), if_pos (by omega), if_pos (by omega)]
      · rw [if_neg (by omega), if_neg (by omega), if_neg (by omega), if_neg (by omega), if_neg (by omega), if_neg (by omega), if_neg (by omega), if_pos ?_]
        · omega
        · have : n + w + 1 - w - 1 = n := by omega
          rw [this]
          rcases hw with rfl | rfl | rfl | rfl | rfl <;> omega
/-- and only there -/
theorem g_at_i {w h : Int} {sl : Int → Int} (hg : g_ok w h sl) {n d : Int} (hn : g_nd w h n) (h0 : 0 ≤ d) (h8 : d < 8) : g_at w h sl n d = -1 ∨ (g_E w h sl (g_at w h sl n d) ∧ ((n = g_fr sl (g_at w h sl n d) ∧ d = g_di sl (g_at w h sl n d)) ∨ (n = g_to w sl (g_at w h sl n d) ∧ d = (g_di sl (g_at w h sl n d) + 4) % 8))) := by
  obtain ⟨hw, hh⟩ := g_cases hg.1
  unfold g_nd at hn
  unfold g_at
  have hd : d = 0 ∨ d = 1 ∨ d = 2 ∨ d = 3 ∨ d = 4 ∨ d = 5 ∨ d = 6 ∨ d = 7 := by omega
  rcases hd with rfl | rfl | rfl | rfl | rfl | rfl | rfl | rfl
  · rw [if_pos rfl]
    split
    · right
      rw [g_E1, g_fr1, g_di1, g_to1]
      refine ⟨?_, Or.inr (by omega)⟩
      unfold g_nd
      rcases hw with rfl | rfl | rfl | rfl | rfl <;> omega
    · exact Or.inl rfl
  · rw [if_neg (by omega), if_pos rfl]
    split
    · rename_i hc
      right
      rw [g_E2, g_fr2, g_di2, g_to2, if_pos hc.2.2, if_pos hc.2.2, if_neg (by omega)]
      refine ⟨⟨?_, by omega⟩, Or.inr (by omega)⟩
      unfold g_ce
      rcases hw with rfl | rfl | rfl | rfl | rfl <;> omega
    · exact Or.inl rfl
  · rw [if_neg (by omega), if_neg (by omega), if_pos rfl]
    split
    · right
      rw [g_E0, g_fr0, g_di0, g_to0]
      exact ⟨⟨hn, by assumption⟩, Or.inl (by omega)⟩
    · exact Or.inl rfl
  · rw [if_neg (by omega), if_neg (by omega), if_neg (by omega), if_pos rfl]
    split
    · rename_i hc
      right
      rw [g_E2, g_fr2, g_di2, g_to2, if_neg (by omega), if_pos hc.2.2, if_neg (by omega)]
      exact ⟨⟨⟨hn.1, hn.2, hc.1, hc.2.1⟩, by omega⟩, Or.inl (by omega)⟩
    · exact Or.inl rfl
  · rw [if_neg (by omega), if_neg (by omega), if_neg (by omega), if_neg (by omega), if_pos rfl]
    split
    · right
      rw [g_E1, g_fr1, g_di1, g_to1]
      exact ⟨⟨hn, by assumption⟩, Or.inl (by omega)⟩
    · exact Or.inl rfl
  · rw [if_neg (by omega), if_neg (by omega), if_neg (by omega), if_neg (by omega), if_neg (by omega), if_pos rfl]
    split
    · rename_i hc
      right
      rw [g_E2, g_fr2, g_di2, g_to2, if_pos hc.2.2, if_pos hc.2.2, if_neg (by omega)]
      refine ⟨⟨?_, by omega⟩, Or.inl (by omega)⟩
      unfold g_ce
      rcases hw with rfl | rfl | rfl | rfl | rfl <;> omega
    · exact Or.inl rfl
  · rw [if_neg (by omega), if_neg (by omega), if_neg (by omega), if_neg (by omega), if_neg (by omega), if_neg (by omega), if_pos rfl]
    split
    · right
      rw [g_E0, g_fr0, g_di0, g_to0]
      refine ⟨?_, Or.inr (by omega)⟩
      unfold g_nd
      rcases hw with rfl | rfl | rfl | rfl | rfl <;> omega
    · exact Or.inl rfl
  · rw [if_neg (by omega), if_neg (by omega), if_neg (by omega), if_neg (by omega), if_neg (by omega), if_neg (by omega), if_neg (by omega)]
    split
    · rename_i hc
      right
      rw [g_E2, g_fr2, g_di2, g_to2, if_neg (by omega), if_pos hc.2.2, if_neg (by omega)]
      refine ⟨⟨?_, by omega⟩, Or.inr (by omega)⟩
      unfold g_ce
      rcases hw with rfl | rfl | rfl | rfl | rfl <;> omega
    · exact Or.inl rfl
/-! LISTS OF NUMBERS, ascending, that have a property -/
def g_fn (P : Int → Prop) [DecidablePred P] (N : Int) : Nat → List Int
  | 0 => []
  | n + 1 => if P (N - ((n : Int) + 1)) then (N - ((n : Int) + 1)) :: g_fn P N n else g_fn P N n
def g_ls (P : Int → Prop) [DecidablePred P] (N e : Int) : List Int := g_fn P N (N - e).toNat
theorem g_ls_s {P : Int → Prop} [DecidablePred P] {N e : Int} (h : e < N) : g_ls P N e = if P e then e :: g_ls P N (e + 1) else g_ls P N (e + 1) := by
  unfold g_ls
  obtain ⟨n, hn⟩ : ∃ n : Nat, (N - e).toNat = n + 1 := ⟨(N - e).toNat - 1, by omega⟩
  rw [hn, show (N - (e + 1)).toNat = n by omega, g_fn, show N - ((n : Int) + 1) = e by omega]
theorem g_ls_y {P : Int → Prop} [DecidablePred P] {N e : Int} (h : e < N) (hp : P e) : g_ls P N e = e :: g_ls P N (e + 1) := by
  rw [g_ls_s h, if_pos hp]
theorem g_ls_n {P : Int → Prop} [DecidablePred P] {N e : Int} (h : e < N) (hp : ¬ P e) : g_ls P N e = g_ls P N (e + 1) := by
  rw [g_ls_s h, if_neg hp]
theorem g_ls_z {P : Int → Prop} [DecidablePred P] {N e : Int} (h : N ≤ e) : g_ls P N e = [] := by
  unfold g_ls
  rw [show (N - e).toNat = 0 by omega]
  rfl
theorem g_ls_mem {P : Int → Prop} [DecidablePred P] {N x : Int} : ∀ (e : Int), e ≤ N → (x ∈ g_ls P N e ↔ e ≤ x ∧ x < N ∧ P x) := by
  refine jm_dn ?_
  intro e he ih
  by_cases h : e < N
  · rw [g_ls_s h]
    have ih := ih h
    split
    · rename_i hp
      rw [List.mem_cons, ih]
      constructor
      · rintro (rfl | q)
        · exact ⟨by omega, by omega, hp⟩
        · exact ⟨by omega, q.2⟩
      · rintro ⟨a, b, c⟩
        by_cases hx : x = e
        · exact Or.inl hx
        · exact Or.inr ⟨by omega, b, c⟩
    · rename_i hp
      rw [ih]
      constructor
      · rintro ⟨a, b, c⟩
        exact ⟨by omega, b, c⟩
      · rintro ⟨a, b, c⟩
        refine ⟨?_, b, c⟩
        by_cases hx : x = e
        · exact absurd (hx ▸ c) hp
        · omega
  · rw [g_ls_z (by omega)]
    constructor
    · intro q
      cases q
    · rintro ⟨a, b, c⟩
      omega
theorem g_ls_len {P : Int → Prop} [DecidablePred P] {N : Int} : ∀ (e : Int), e ≤ N → ((g_ls P N e).length : Int) ≤ N - e := by
  refine jm_dn ?_
  intro e he ih
  by_cases h : e < N
  · rw [g_ls_s h]
    have ih := ih h
    split
    · rw [List.length_cons]
      omega
    · omega
  · rw [g_ls_z (by omega)]
    show (0 : Int) ≤ _
    omega
theorem g_ls_nd {P : Int → Prop} [DecidablePred P] {N : Int} : ∀ (e : Int), e ≤ N → (g_ls P N e).Nodup := by
  refine jm_dn ?_
  intro e he ih
  by_cases h : e < N
  · rw [g_ls_s h]
    have ih := ih h
    split
    · rw [List.nodup_cons]
      refine ⟨fun q => ?_, ih⟩
      have := (g_ls_mem (e + 1) (by omega)).1 q
      omega
    · exact ih
  · rw [g_ls_z (by omega)]
    exact List.nodup_nil
/-- all edges -/
abbrev g_el (w h : Int) (sl : Int → Int) : List Int := g_ls (fun e => g_E w h sl e) 108 0
theorem g_el_mem {w h : Int} {sl : Int → Int} (hg : g_sd w h) {e : Int} : e ∈ g_el w h sl ↔ g_E w h sl e := by
  rw [g_ls_mem 0 (by omega)]
  constructor
  · exact fun q => q.2.2
  · intro q
    have := g_Eb hg q
    exact ⟨by omega, by omega, q⟩
