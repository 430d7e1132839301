/-! KEYS: costs and hops in one number; both are small where there are potentials -/
def b_H (s : b_S) : Prop := ∀ v b, s.1 v = some b → -(100 * (b % 65536)) ≤ b / 65536 ∧ b / 65536 ≤ 100 * (b % 65536)
def k_bd (s : b_S) : Prop := ∀ v b, s.1 v = some b → b % 65536 ≤ 72 ∧ -7200 ≤ b / 65536 ∧ b / 65536 ≤ 7200
theorem b_H_0 (s0 : Int) : b_H (b_0 s0) := by
  intro v b hb
  unfold b_0 at hb
  dsimp only at hb
  split at hb
  · injection hb with hb
    omega
  · cases hb
theorem b_H_t {s : b_S} {f g W e : Int} (hW : -100 ≤ W ∧ W ≤ 100) (hk : k_bd s) (h : b_H s) : b_H (b_t s (f, g, 65536 * W + 1, e)) := by
  cases hok : b_ok s.1 f g (65536 * W + 1) with
  | false => rw [b_t_f (x := (f, g, 65536 * W + 1, e)) hok]; exact h
  | true =>
    obtain ⟨a, ha, hnw, -⟩ := b_ok_t hok
    rw [b_t_t (x := (f, g, 65536 * W + 1, e)) hok]
    intro v b hb
    dsimp only at hb
    rw [hnw] at hb
    by_cases q : v = g
    · rw [q, b_pt_s] at hb
      injection hb with hb
      have h1 := h f a ha
      have h2 := hk f a ha
      have e1 : b % 65536 = a % 65536 + 1 := by omega
      have e2 : b / 65536 = a / 65536 + W := by omega
      rw [e1, e2]
      omega
    · rw [b_pt_o q] at hb
      exact h v b hb
theorem k_bd_of {A : List b_A} {s0 : Int} {k : Nat} {pre : List b_A} {s : b_S} {Fs : List Int} {π : Int → Int} (hJ : b_J A s0 k pre s) (hπ : ∀ x ∈ A, π x.2.1 ≤ π x.1 + x.2.2.1) (hW : ∀ x ∈ A, x.2.2.1 % 65536 = 1) (hin : b_in Fs s) (hF : Fs.length ≤ 73) (hH : b_H s) : k_bd s := by
  obtain ⟨r, P, -, -, -, -, -, -, h7, h8, h9⟩ := hJ
  intro v b hb
  have hne : s.1 v ≠ none := by rw [hb]; simp
  obtain ⟨p1, p2, p3⟩ := h7 v hne
  have h1 := b_pig (P v) Fs (h8 π hπ v b hb).1 (fun u hu => hin u (p3 u hu))
  have h2 := h9 hW v b hb
  have h3 := hH v b hb
  have h4 := List.length_pos_of_mem p2
  omega
/-! labels are met by arcs -/
def b_T (A : List b_A) (s0 : Int) (s : b_S) : Prop := ∀ v a, s.1 v = some a → (v = s0 ∧ 0 ≤ a) ∨ ∃ x ∈ A, x.2.1 = v ∧ ∃ c, s.1 x.1 = some c ∧ c + x.2.2.1 ≤ a
theorem b_T_0 (A : List b_A) (s0 : Int) : b_T A s0 (b_0 s0) := by
  intro v a ha
  unfold b_0 at ha
  dsimp only at ha
  split at ha
  · rename_i q
    injection ha with ha
    exact Or.inl ⟨q, by omega⟩
  · cases ha
theorem b_T_t {A : List b_A} {s0 : Int} {s : b_S} {x : b_A} (hx : x ∈ A) (hne : x.1 ≠ x.2.1) (h : b_T A s0 s) : b_T A s0 (b_t s x) := by
  cases hk : b_ok s.1 x.1 x.2.1 x.2.2.1 with
  | false => rw [b_t_f hk]; exact h
  | true =>
    obtain ⟨a, ha, hnw, hlt⟩ := b_ok_t hk
    rw [b_t_t hk, hnw]
    intro v b hb
    dsimp only at hb ⊢
    by_cases q : v = x.2.1
    · rw [q, b_pt_s] at hb
      injection hb with hb
      exact Or.inr ⟨x, hx, q.symm, a, by rw [b_pt_o hne]; exact ha, by omega⟩
    · rw [b_pt_o q] at hb
      rcases h v b hb with h1 | ⟨y, y1, y2, c, y3, y4⟩
      · exact Or.inl h1
      · refine Or.inr ⟨y, y1, y2, ?_⟩
        by_cases q2 : y.1 = x.2.1
        · rw [q2] at y3 ⊢
          have := hlt c y3
          exact ⟨_, b_pt_s _ _ _, by omega⟩
        · exact ⟨c, by rw [b_pt_o q2]; exact y3, y4⟩
theorem b_T_r {A : List b_A} {s0 : Int} (hne : ∀ x ∈ A, x.1 ≠ x.2.1) : ∀ {B : List b_A} {s : b_S}, (∀ x ∈ B, x ∈ A) → b_T A s0 s → b_T A s0 (b_r B s)
  | [], s, _, h => h
  | x :: B, s, hB, h => b_T_r hne (B := B) (s := b_t s x) (fun y hy => hB y (List.mem_cons_of_mem _ hy)) (b_T_t (hB x List.mem_cons_self) (hne x (hB x List.mem_cons_self)) h)
theorem b_T_n {A : List b_A} {s0 : Int} (hne : ∀ x ∈ A, x.1 ≠ x.2.1) : ∀ k, b_T A s0 (b_n A k (b_0 s0))
  | 0 => b_T_0 A s0
  | k + 1 => b_T_r hne (fun _ hx => hx) (b_T_n hne k)
/-- the label where it begins is 0 at most -/
theorem b_le0_r {A : List b_A} {s0 : Int} {s : b_S} (h : ∃ a, s.1 s0 = some a ∧ a ≤ 0) : ∃ a, (b_r A s).1 s0 = some a ∧ a ≤ 0 := by
  induction A generalizing s with
  | nil => exact h
  | cons x A ih =>
    refine ih (s := b_t s x) ?_
    cases hk : b_ok s.1 x.1 x.2.1 x.2.2.1 with
    | false => rw [b_t_f hk]; exact h
    | true =>
      obtain ⟨a, ha, hnw, hlt⟩ := b_ok_t hk
      obtain ⟨b, hb, hb0⟩ := h
      rw [b_t_t hk, hnw]
      by_cases q : s0 = x.2.1
      · rw [q] at hb ⊢
        have := hlt b hb
        exact ⟨_, b_pt_s _ _ _, by omega⟩
      · exact ⟨b, by show b_pt _ _ _ s0 = _; rw [b_pt_o q]; exact hb, hb0⟩
theorem b_le0_n {A : List b_A} {s0 : Int} : ∀ k, ∃ a, (b_n A k (b_0 s0)).1 s0 = some a ∧ a ≤ 0
  | 0 => ⟨0, if_pos rfl, Int.le_refl _⟩
  | k + 1 => b_le0_r (b_le0_n k)
section K1
variable {w h : Int} {sl fo ba : Int → Int}
theorem g_bwK_W : ∀ x ∈ (g_bw w h sl fo ba).map b_K, x.2.2.1 % 65536 = 1 := by
  intro x hx
  obtain ⟨y, hy, rfl⟩ := List.mem_map.1 hx
  show (65536 * y.2.2.1 + 1) % 65536 = 1
  omega
theorem g_bwK_ne (hg : g_ok w h sl) : ∀ x ∈ (g_bw w h sl fo ba).map b_K, x.1 ≠ x.2.1 := by
  rw [b_ar_K]
  exact g_bw_ne hg
theorem g_bwK_fs (hg : g_ok w h sl) : ∀ x ∈ (g_bw w h sl fo ba).map b_K, x.2.1 ∈ g_fs w h sl := by
  rw [b_ar_K]
  exact g_bw_fs hg
theorem g_dk_of (hg : g_ok w h sl) (hc : g_circ w h sl fo ba) {to : Int} (hto : g_F w h sl to) {k : Nat} (hf : b_fl ((g_bw w h sl fo ba).map b_K) (b_n ((g_bw w h sl fo ba).map b_K) k (b_0 to)) = false) {v : Int} (hv : g_F w h sl v) : (b_n ((g_bw w h sl fo ba).map b_K) k (b_0 to)).1 v = some (g_dk w h sl fo ba to v) := by
  have hN := g_fs_len (w := w) (h := h) (sl := sl)
  have h73 := g_bwK_end hg hc hto (show (g_fs w h sl).length < 73 + 2 by omega)
  have hs := (b_fl_f h73).2
  have h0 := b_src_n (A := (g_bw w h sl fo ba).map b_K) (b_0_s to) 73
  unfold g_dk
  rw [b_same hf h73]
  rw [b_ar_K] at hs h0 ⊢
  have h1 := g_bw_lab hg hto h0 hs hv
  obtain ⟨a, ha⟩ := Option.ne_none_iff_exists'.1 h1
  rw [ha]
  rfl
/-- how small they are -/
theorem g_dk_bd (hg : g_ok w h sl) (hbo : g_bo fo ba) (hc : g_circ w h sl fo ba) {to : Int} (hto : g_F w h sl to) : ∀ (k : Nat), k_bd (b_n ((g_bw w h sl fo ba).map b_K) k (b_0 to)) ∧ b_H (b_n ((g_bw w h sl fo ba).map b_K) k (b_0 to)) := by
  obtain ⟨π, hπ⟩ := g_circ_bw hg hc
  have hπK := b_potK hπ
  have hN := g_fs_len (w := w) (h := h) (sl := sl)
  have hto' := (g_fs_mem hg).2 hto
  have key : ∀ (post pre : List b_A) (s : b_S) (k : Nat), pre ++ post = (g_bw w h sl fo ba).map b_K → b_J ((g_bw w h sl fo ba).map b_K) to k pre s → b_in (g_fs w h sl) s → b_H s → b_H (b_r post s) := by
    intro post
    induction post with
    | nil => intro pre s k _ _ _ hH; exact hH
    | cons x post ih =>
      intro pre s k hA hJ hin hH
      have hxA : x ∈ (g_bw w h sl fo ba).map b_K := by rw [← hA]; simp
      have hkb := k_bd_of (π := fun v => 65536 * π v) hJ hπK g_bwK_W hin hN hH
      refine ih (pre ++ [x]) (b_t s x) k (by rw [List.append_assoc]; exact hA) (b_J_step hA (g_bwK_ne hg x hxA) hJ).1 (b_in_t (g_bwK_fs hg x hxA) hin) ?_
      obtain ⟨y, hy, rfl⟩ := List.mem_map.1 hxA
      obtain ⟨e, he, rfl | rfl⟩ := b_ar_mem.1 hy
      · exact b_H_t ⟨(hbo e).1, (hbo e).2.1⟩ hkb hH
      · exact b_H_t ⟨(hbo e).2.2.1, (hbo e).2.2.2.1⟩ hkb hH
  intro k
  have hJ := fun k => b_J_n (A := (g_bw w h sl fo ba).map b_K) (s0 := to) (g_bwK_ne hg) (g_bwK_fs hg) hto' k
  have hin := fun k => b_in_n (A := (g_bw w h sl fo ba).map b_K) (g_bwK_fs hg) (b_in_0 hto') k
  have hH : b_H (b_n ((g_bw w h sl fo ba).map b_K) k (b_0 to)) := by
    induction k with
    | zero => exact b_H_0 to
    | succ k ih => exact key _ [] _ k rfl (hJ k) (hin k) ih
  exact ⟨k_bd_of (π := fun v => 65536 * π v) (hJ k) hπK g_bwK_W (hin k) hN hH, hH⟩
theorem g_d_bd (hg : g_ok w h sl) (hbo : g_bo fo ba) (hc : g_circ w h sl fo ba) {to v : Int} (hto : g_F w h sl to) (hv : g_F w h sl v) : 0 ≤ g_dh w h sl fo ba to v ∧ g_dh w h sl fo ba to v ≤ 72 ∧ -7200 ≤ g_dc w h sl fo ba to v ∧ g_dc w h sl fo ba to v ≤ 7200 := by
  have hN := g_fs_len (w := w) (h := h) (sl := sl)
  have h73 := g_bwK_end hg hc hto (show (g_fs w h sl).length < 73 + 2 by omega)
  have := (g_dk_bd hg hbo hc hto 73).1 v _ (g_dk_of hg hc hto h73 hv)
  unfold g_dh g_dc
  omega
/-- what is left at a face: where it is the end, nothing; elsewhere some edge leads on -/
theorem g_d_to (hg : g_ok w h sl) (hc : g_circ w h sl fo ba) {to : Int} (hto : g_F w h sl to) : g_dk w h sl fo ba to to = 0 := by
  have hN := g_fs_len (w := w) (h := h) (sl := sl)
  have h73 := g_bwK_end hg hc hto (show (g_fs w h sl).length < 73 + 2 by omega)
  have h1 := g_dk_of hg hc hto h73 hto
  obtain ⟨a, ha, ha0⟩ := b_le0_n (A := (g_bw w h sl fo ba).map b_K) (s0 := to) 73
  rw [h1] at ha
  injection ha with ha
  obtain ⟨π, hπ⟩ := g_circ_bw hg hc
  have := b_lb_n (π := fun v => 65536 * π v) (s0 := to) (b_potK hπ) 73 to _ h1
  dsimp only at this
  omega
theorem g_d_on (hg : g_ok w h sl) (hc : g_circ w h sl fo ba) {to v : Int} (hto : g_F w h sl to) (hv : g_F w h sl v) (hne : v ≠ to) : ∃ e, g_E w h sl e ∧ ((g_lf w h sl e = v ∧ g_dk w h sl fo ba to v = g_dk w h sl fo ba to (g_rt w h sl e) + 65536 * fo e + 1) ∨ (g_rt w h sl e = v ∧ g_dk w h sl fo ba to v = g_dk w h sl fo ba to (g_lf w h sl e) + 65536 * ba e + 1)) := by
  have hN := g_fs_len (w := w) (h := h) (sl := sl)
  have h73 := g_bwK_end hg hc hto (show (g_fs w h sl).length < 73 + 2 by omega)
  have hs := (b_fl_f h73).2
  have hT := b_T_n (s0 := to) (g_bwK_ne (fo := fo) (ba := ba) hg) 73
  have h1 := g_dk_of hg hc hto h73 hv
  rcases hT v _ h1 with ⟨q, -⟩ | ⟨x, hx, x1, c, x2, x3⟩
  · exact absurd q hne
  · have hsx := hs x hx c x2
    obtain ⟨b, b1, b2⟩ := hsx
    rw [x1, h1] at b1
    injection b1 with b1
    obtain ⟨y, hy, rfl⟩ := List.mem_map.1 hx
    obtain ⟨e, he, rfl | rfl⟩ := b_ar_mem.1 hy
    · have hE := (g_el_mem hg.1).1 he
      refine ⟨e, hE, Or.inl ⟨x1, ?_⟩⟩
      have hr := g_dk_of hg hc hto h73 (g_rtF hg hE).1
      have x2 : (b_n ((g_bw w h sl fo ba).map b_K) 73 (b_0 to)).1 (g_rt w h sl e) = some c := x2
      rw [hr] at x2
      injection x2 with x2
      have x3 : c + (65536 * fo e + 1) ≤ _ := x3
      have b2 : b ≤ c + (65536 * fo e + 1) := b2
      omega
    · have hE := (g_el_mem hg.1).1 he
      refine ⟨e, hE, Or.inr ⟨x1, ?_⟩⟩
      have hr := g_dk_of hg hc hto h73 (g_lfF hg hE).1
      have x2 : (b_n ((g_bw w h sl fo ba).map b_K) 73 (b_0 to)).1 (g_lf w h sl e) = some c := x2
      rw [hr] at x2
      injection x2 with x2
      have x3 : c + (65536 * ba e + 1) ≤ _ := x3
      have b2 : b ≤ c + (65536 * ba e + 1) := b2
      omega
end K1
