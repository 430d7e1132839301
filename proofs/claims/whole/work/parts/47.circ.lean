/-! CIRCULATIONS: potentials; both runs find them alike -/
abbrev g_fs (w h : Int) (sl : Int → Int) : List Int := g_ls (fun f => g_F w h sl f) 73 0
/-- arcs, the way they are crossed, and against it -/
abbrev g_fw (w h : Int) (sl fo ba : Int → Int) : List b_A := b_ar (g_lf w h sl) (g_rt w h sl) fo ba (g_el w h sl)
abbrev g_bw (w h : Int) (sl fo ba : Int → Int) : List b_A := b_ar (g_rt w h sl) (g_lf w h sl) fo ba (g_el w h sl)
def g_circ (w h : Int) (sl fo ba : Int → Int) : Prop := ∃ π : Int → Int, ∀ e, g_E w h sl e → π (g_rt w h sl e) ≤ π (g_lf w h sl e) + fo e ∧ π (g_lf w h sl e) ≤ π (g_rt w h sl e) + ba e
section E1
variable {w h : Int} {sl fo ba : Int → Int}
theorem g_fs_mem (hg : g_ok w h sl) {f : Int} : f ∈ g_fs w h sl ↔ g_F w h sl f := by
  rw [g_ls_mem 0 (by omega)]
  constructor
  · exact fun q => q.2.2
  · intro q
    have := g_Fb hg q
    exact ⟨by omega, by omega, q⟩
theorem g_fs_len : (g_fs w h sl).length ≤ 73 := by
  have : ((g_fs w h sl).length : Int) ≤ 73 - 0 := g_ls_len 0 (by omega)
  omega
theorem g_el_len : (g_el w h sl).length ≤ 108 := by
  have : ((g_el w h sl).length : Int) ≤ 108 - 0 := g_ls_len 0 (by omega)
  omega
theorem g_fw_ne (hg : g_ok w h sl) {c d : Int → Int} : ∀ x ∈ b_ar (g_lf w h sl) (g_rt w h sl) c d (g_el w h sl), x.1 ≠ x.2.1 := by
  intro x hx
  obtain ⟨e, he, rfl | rfl⟩ := b_ar_mem.1 hx
  · exact g_two hg.1 ((g_el_mem hg.1).1 he)
  · exact (g_two hg.1 ((g_el_mem hg.1).1 he)).symm
theorem g_bw_ne (hg : g_ok w h sl) {c d : Int → Int} : ∀ x ∈ b_ar (g_rt w h sl) (g_lf w h sl) c d (g_el w h sl), x.1 ≠ x.2.1 := by
  intro x hx
  obtain ⟨e, he, rfl | rfl⟩ := b_ar_mem.1 hx
  · exact (g_two hg.1 ((g_el_mem hg.1).1 he)).symm
  · exact g_two hg.1 ((g_el_mem hg.1).1 he)
theorem g_fw_fs (hg : g_ok w h sl) {c d : Int → Int} : ∀ x ∈ b_ar (g_lf w h sl) (g_rt w h sl) c d (g_el w h sl), x.2.1 ∈ g_fs w h sl := by
  intro x hx
  obtain ⟨e, he, rfl | rfl⟩ := b_ar_mem.1 hx
  · exact (g_fs_mem hg).2 (g_rtF hg ((g_el_mem hg.1).1 he)).1
  · exact (g_fs_mem hg).2 (g_lfF hg ((g_el_mem hg.1).1 he)).1
theorem g_bw_fs (hg : g_ok w h sl) {c d : Int → Int} : ∀ x ∈ b_ar (g_rt w h sl) (g_lf w h sl) c d (g_el w h sl), x.2.1 ∈ g_fs w h sl := by
  intro x hx
  obtain ⟨e, he, rfl | rfl⟩ := b_ar_mem.1 hx
  · exact (g_fs_mem hg).2 (g_lfF hg ((g_el_mem hg.1).1 he)).1
  · exact (g_fs_mem hg).2 (g_rtF hg ((g_el_mem hg.1).1 he)).1
/-- at an end all faces have labels -/
theorem g_fw_lab (hg : g_ok w h sl) {c d : Int → Int} {L : b_L} {s0 : Int} (hs0 : g_F w h sl s0) (h0 : L s0 ≠ none) (hs : ∀ x ∈ b_ar (g_lf w h sl) (g_rt w h sl) c d (g_el w h sl), b_sat L x) {f : Int} (hf : g_F w h sl f) : L f ≠ none := by
  have hL : ∀ e, g_E w h sl e → (L (g_lf w h sl e) ≠ none ↔ L (g_rt w h sl e) ≠ none) := fun e he => b_both hs ((g_el_mem hg.1).2 he)
  rw [g_conn72 hg (Lab := fun v => L v ≠ none) hL hf, ← g_conn72 hg (Lab := fun v => L v ≠ none) hL hs0]
  exact h0
theorem g_bw_lab (hg : g_ok w h sl) {c d : Int → Int} {L : b_L} {s0 : Int} (hs0 : g_F w h sl s0) (h0 : L s0 ≠ none) (hs : ∀ x ∈ b_ar (g_rt w h sl) (g_lf w h sl) c d (g_el w h sl), b_sat L x) {f : Int} (hf : g_F w h sl f) : L f ≠ none := by
  have hL : ∀ e, g_E w h sl e → (L (g_lf w h sl e) ≠ none ↔ L (g_rt w h sl e) ≠ none) := fun e he => (b_both hs ((g_el_mem hg.1).2 he)).symm
  rw [g_conn72 hg (Lab := fun v => L v ≠ none) hL hf, ← g_conn72 hg (Lab := fun v => L v ≠ none) hL hs0]
  exact h0
/-- an end tells a circulation -/
theorem g_circ_of (hg : g_ok w h sl) {s0 : Int} (hs0 : g_F w h sl s0) {k : Nat} (hf : b_fl (g_fw w h sl fo ba) (b_n (g_fw w h sl fo ba) k (b_0 s0)) = false) : g_circ w h sl fo ba := by
  have hs := (b_fl_f hf).2
  have h0 := b_src_n (A := g_fw w h sl fo ba) (b_0_s s0) k
  have hp := b_pot hs (fun x hx => by
    obtain ⟨e, he, rfl | rfl⟩ := b_ar_mem.1 hx
    · exact g_fw_lab hg hs0 h0 hs (g_lfF hg ((g_el_mem hg.1).1 he)).1
    · exact g_fw_lab hg hs0 h0 hs (g_rtF hg ((g_el_mem hg.1).1 he)).1)
  exact ⟨fun v => ((b_n (g_fw w h sl fo ba) k (b_0 s0)).1 v).getD 0, fun e he => ⟨hp _ (b_ar_mem.2 ⟨e, (g_el_mem hg.1).2 he, Or.inl rfl⟩), hp _ (b_ar_mem.2 ⟨e, (g_el_mem hg.1).2 he, Or.inr rfl⟩)⟩⟩
theorem g_circ_fw (hg : g_ok w h sl) (hc : g_circ w h sl fo ba) : ∃ π : Int → Int, ∀ x ∈ g_fw w h sl fo ba, π x.2.1 ≤ π x.1 + x.2.2.1 := by
  obtain ⟨π, hπ⟩ := hc
  refine ⟨π, fun x hx => ?_⟩
  obtain ⟨e, he, rfl | rfl⟩ := b_ar_mem.1 hx
  · exact (hπ e ((g_el_mem hg.1).1 he)).1
  · exact (hπ e ((g_el_mem hg.1).1 he)).2
theorem g_circ_bw (hg : g_ok w h sl) (hc : g_circ w h sl fo ba) : ∃ π : Int → Int, ∀ x ∈ g_bw w h sl fo ba, π x.2.1 ≤ π x.1 + x.2.2.1 := by
  obtain ⟨π, hπ⟩ := hc
  refine ⟨fun v => - π v, fun x hx => ?_⟩
  obtain ⟨e, he, rfl | rfl⟩ := b_ar_mem.1 hx
  · have := (hπ e ((g_el_mem hg.1).1 he)).1
    dsimp only
    omega
  · have := (hπ e ((g_el_mem hg.1).1 he)).2
    dsimp only
    omega
theorem b_potK {A : List b_A} {π : Int → Int} (hπ : ∀ x ∈ A, π x.2.1 ≤ π x.1 + x.2.2.1) : ∀ x ∈ A.map b_K, 65536 * π x.2.1 ≤ 65536 * π x.1 + x.2.2.1 := by
  intro x hx
  obtain ⟨y, hy, rfl⟩ := List.mem_map.1 hx
  have := hπ y hy
  show 65536 * π y.2.1 ≤ 65536 * π y.1 + (65536 * y.2.2.1 + 1)
  omega
/-- a circulation tells that the rounds come to an end -/
theorem g_fw_end (hg : g_ok w h sl) (hc : g_circ w h sl fo ba) {s0 : Int} (hs0 : g_F w h sl s0) {k : Nat} (hk : (g_fs w h sl).length < k + 2) : b_fl (g_fw w h sl fo ba) (b_n (g_fw w h sl fo ba) k (b_0 s0)) = false := by
  obtain ⟨π, hπ⟩ := g_circ_fw hg hc
  exact b_ends (g_fw_ne hg) (g_fw_fs hg) ((g_fs_mem hg).2 hs0) hπ hk
theorem g_bw_end (hg : g_ok w h sl) (hc : g_circ w h sl fo ba) {s0 : Int} (hs0 : g_F w h sl s0) {k : Nat} (hk : (g_fs w h sl).length < k + 2) : b_fl (g_bw w h sl fo ba) (b_n (g_bw w h sl fo ba) k (b_0 s0)) = false := by
  obtain ⟨π, hπ⟩ := g_circ_bw hg hc
  exact b_ends (g_bw_ne hg) (g_bw_fs hg) ((g_fs_mem hg).2 hs0) hπ hk
theorem g_fwK_end (hg : g_ok w h sl) (hc : g_circ w h sl fo ba) {s0 : Int} (hs0 : g_F w h sl s0) {k : Nat} (hk : (g_fs w h sl).length < k + 2) : b_fl ((g_fw w h sl fo ba).map b_K) (b_n ((g_fw w h sl fo ba).map b_K) k (b_0 s0)) = false := by
  obtain ⟨π, hπ⟩ := g_circ_fw hg hc
  have := b_potK hπ
  rw [b_ar_K] at this ⊢
  exact b_ends (π := fun v => 65536 * π v) (g_fw_ne hg) (g_fw_fs hg) ((g_fs_mem hg).2 hs0) this hk
theorem g_bwK_end (hg : g_ok w h sl) (hc : g_circ w h sl fo ba) {s0 : Int} (hs0 : g_F w h sl s0) {k : Nat} (hk : (g_fs w h sl).length < k + 2) : b_fl ((g_bw w h sl fo ba).map b_K) (b_n ((g_bw w h sl fo ba).map b_K) k (b_0 s0)) = false := by
  obtain ⟨π, hπ⟩ := g_circ_bw hg hc
  have := b_potK hπ
  rw [b_ar_K] at this ⊢
  exact b_ends (π := fun v => 65536 * π v) (g_bw_ne hg) (g_bw_fs hg) ((g_fs_mem hg).2 hs0) this hk
/-- an end of the costs with hops is one of the costs -/
theorem b_satK {t : Int} {s s' : b_S} {x : b_A} (ht : t + 1 < 65536) (hR : b_R t s s') (h : b_sat s'.1 (b_K x)) : b_sat s.1 x := by
  intro a ha
  cases hb : s'.1 x.1 with
  | none =>
    have := (hR x.1).1 hb
    rw [ha] at this
    cases this
  | some b =>
    obtain ⟨c, hc, hle⟩ := h b hb
    have hle : c ≤ b + (65536 * x.2.2.1 + 1) := hle
    obtain ⟨a1, n1, e1, e2, e3, e4⟩ := (hR x.1).2 b hb
    obtain ⟨a2, n2, f1, f2, f3, f4⟩ := (hR x.2.1).2 c hc
    rw [ha] at e4
    injection e4 with e4
    exact ⟨a2, f4, by omega⟩
theorem b_flK {A : List b_A} {s0 : Int} {k : Nat} (hk : (k : Int) * (A.length : Int) + 1 < 65536) (h : b_fl (A.map b_K) (b_n (A.map b_K) k (b_0 s0)) = false) : b_fl A (b_n A k (b_0 s0)) = false := by
  have hR := b_R_n (A := A) (s0 := s0) k (by omega)
  have hs := (b_fl_f h).2
  exact b_fl_s (fun x hx => b_satK hk hR (hs (b_K x) (List.mem_map.2 ⟨x, hx, rfl⟩)))
end E1
