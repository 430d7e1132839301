/-! THE OUTER FACE PARTED IN TWO -/
def b_ren (σ : Int → Int) (x : b_A) : b_A := (σ x.1, σ x.2.1, x.2.2.1, x.2.2.2)
def b_sw (σ : Int → Int) (s : b_S) : b_S := (fun v => s.1 (σ v), fun v => s.2 (σ v))
section S1
variable {σ : Int → Int}
theorem b_sw_ok (hσ : ∀ v, σ (σ v) = v) (s : b_S) (f g W : Int) : b_ok (b_sw σ s).1 (σ f) (σ g) W = b_ok s.1 f g W := by
  unfold b_ok b_sw
  dsimp only
  rw [hσ, hσ]
theorem b_sw_t (hσ : ∀ v, σ (σ v) = v) (s : b_S) (x : b_A) : b_t (b_sw σ s) (b_ren σ x) = b_sw σ (b_t s x) := by
  have h1 := b_sw_ok hσ s x.1 x.2.1 x.2.2.1
  cases hk : b_ok s.1 x.1 x.2.1 x.2.2.1 with
  | false =>
    rw [hk] at h1
    rw [b_t_f hk, b_t_f (x := b_ren σ x) h1]
  | true =>
    rw [hk] at h1
    rw [b_t_t hk, b_t_t (x := b_ren σ x) h1]
    have e1 : ∀ v, (v = σ x.2.1) ↔ (σ v = x.2.1) := fun v => ⟨fun q => by rw [q, hσ], fun q => by rw [← q, hσ]⟩
    unfold b_sw b_pt b_nw jm_up b_ren
    dsimp only
    simp only [hσ, e1]
theorem b_sw_r (hσ : ∀ v, σ (σ v) = v) : ∀ (A : List b_A) (s : b_S), b_r (A.map (b_ren σ)) (b_sw σ s) = b_sw σ (b_r A s)
  | [], s => rfl
  | x :: A, s => by
    show b_r (A.map (b_ren σ)) (b_t (b_sw σ s) (b_ren σ x)) = b_sw σ (b_r A (b_t s x))
    rw [b_sw_t hσ, b_sw_r hσ A]
theorem b_sw_0 (hσ : ∀ v, σ (σ v) = v) (s0 : Int) : b_sw σ (b_0 s0) = b_0 (σ s0) := by
  have e1 : ∀ v, (σ v = s0) ↔ (v = σ s0) := fun v => ⟨fun q => by rw [← q, hσ], fun q => by rw [q, hσ]⟩
  unfold b_sw b_0
  dsimp only
  simp only [e1]
theorem b_sw_n (hσ : ∀ v, σ (σ v) = v) (A : List b_A) (s0 : Int) : ∀ k, b_n (A.map (b_ren σ)) k (b_0 (σ s0)) = b_sw σ (b_n A k (b_0 s0))
  | 0 => (b_sw_0 hσ s0).symm
  | k + 1 => by
    show b_r (A.map (b_ren σ)) (b_n (A.map (b_ren σ)) k (b_0 (σ s0))) = b_sw σ (b_r A (b_n A k (b_0 s0)))
    rw [b_sw_n hσ A s0 k, b_sw_r hσ]
theorem b_sw_fl (hσ : ∀ v, σ (σ v) = v) : ∀ (A : List b_A) (s : b_S), b_fl (A.map (b_ren σ)) (b_sw σ s) = b_fl A s
  | [], s => rfl
  | x :: A, s => by
    show (b_ok (b_sw σ s).1 (σ x.1) (σ x.2.1) x.2.2.1 || b_fl (A.map (b_ren σ)) (b_t (b_sw σ s) (b_ren σ x))) = (b_ok s.1 x.1 x.2.1 x.2.2.1 || b_fl A (b_t s x))
    rw [b_sw_ok hσ, b_sw_t hσ, b_sw_fl hσ A]
theorem b_ar_ren {p q c d : Int → Int} : ∀ {l : List Int}, (b_ar p q c d l).map (b_ren σ) = b_ar (fun e => σ (p e)) (fun e => σ (q e)) c d l
  | [] => rfl
  | e :: l => by
    show b_ren σ (p e, q e, c e, e) :: b_ren σ (q e, p e, d e, e) :: (b_ar p q c d l).map (b_ren σ) = _
    rw [b_ar_ren]
    rfl
end S1
theorem b_ar_cong {p q c d p' q' : Int → Int} : ∀ {l : List Int}, (∀ e ∈ l, p e = p' e ∧ q e = q' e) → b_ar p q c d l = b_ar p' q' c d l
  | [], _ => rfl
  | e :: l, h => by
    obtain ⟨h1, h2⟩ := h e List.mem_cons_self
    show (p e, q e, c e, e) :: (q e, p e, d e, e) :: b_ar p q c d l = (p' e, q' e, c e, e) :: (q' e, p' e, d e, e) :: b_ar p' q' c d l
    rw [h1, h2, b_ar_cong (fun x hx => h x (List.mem_cons_of_mem _ hx))]
def g_hl (w h : Int) (sl il : Int → Int) (e : Int) : Int := if g_lf w h sl e = 72 ∧ il e = 0 then 73 else g_lf w h sl e
def g_hr (w h : Int) (sl il : Int → Int) (e : Int) : Int := if g_rt w h sl e = 72 ∧ il e = 0 then 73 else g_rt w h sl e
abbrev g_ha (w h : Int) (sl fo ba il : Int → Int) : List b_A := b_ar (g_hl w h sl il) (g_hr w h sl il) fo ba (g_el w h sl)
def g_sv (w h : Int) (sl fo ba il : Int → Int) : Int := ((b_n (g_ha w h sl fo ba il) 74 (b_0 72)).1 73).getD 0
section H1
variable {w h : Int} {sl fo ba il : Int → Int}
theorem g_h_b (hg : g_ok w h sl) {e : Int} (he : g_E w h sl e) : 0 ≤ g_hl w h sl il e ∧ g_hl w h sl il e < 74 ∧ 0 ≤ g_hr w h sl il e ∧ g_hr w h sl il e < 74 ∧ g_hl w h sl il e ≠ g_hr w h sl il e := by
  have h1 := g_lfF hg he
  have h2 := g_rtF hg he
  have h3 := g_two hg.1 he
  unfold g_hl g_hr
  split <;> split <;> omega
theorem g_ha_ne (hg : g_ok w h sl) : ∀ x ∈ g_ha w h sl fo ba il, x.1 ≠ x.2.1 := by
  intro x hx
  obtain ⟨e, he, rfl | rfl⟩ := b_ar_mem.1 hx
  · exact (g_h_b hg ((g_el_mem hg.1).1 he)).2.2.2.2
  · exact (g_h_b hg ((g_el_mem hg.1).1 he)).2.2.2.2.symm
theorem g_h_fs (hg : g_ok w h sl) {e : Int} (he : g_E w h sl e) : g_hl w h sl il e ∈ 73 :: g_fs w h sl ∧ g_hr w h sl il e ∈ 73 :: g_fs w h sl := by
  have h1 := (g_fs_mem hg).2 (g_lfF hg he).1
  have h2 := (g_fs_mem hg).2 (g_rtF hg he).1
  unfold g_hl g_hr
  constructor
  · split
    · exact List.mem_cons_self
    · exact List.mem_cons_of_mem _ h1
  · split
    · exact List.mem_cons_self
    · exact List.mem_cons_of_mem _ h2
theorem g_ha_fs (hg : g_ok w h sl) : ∀ x ∈ g_ha w h sl fo ba il, x.2.1 ∈ 73 :: g_fs w h sl := by
  intro x hx
  obtain ⟨e, he, rfl | rfl⟩ := b_ar_mem.1 hx
  · exact (g_h_fs hg ((g_el_mem hg.1).1 he)).2
  · exact (g_h_fs hg ((g_el_mem hg.1).1 he)).1
theorem g_ha_pot (hg : g_ok w h sl) (hc : g_circ w h sl fo ba) : ∃ π : Int → Int, ∀ x ∈ g_ha w h sl fo ba il, π x.2.1 ≤ π x.1 + x.2.2.1 := by
  obtain ⟨π, hπ⟩ := hc
  have e1 : ∀ e, g_E w h sl e → (fun v => if v = 73 then π 72 else π v) (g_hl w h sl il e) = π (g_lf w h sl e) := by
    intro e he
    have := g_lfF hg he
    unfold g_hl
    dsimp only
    by_cases q : g_lf w h sl e = 72 ∧ il e = 0
    · rw [if_pos q, if_pos rfl, q.1]
    · rw [if_neg q, if_neg (by omega)]
  have e2 : ∀ e, g_E w h sl e → (fun v => if v = 73 then π 72 else π v) (g_hr w h sl il e) = π (g_rt w h sl e) := by
    intro e he
    have := g_rtF hg he
    unfold g_hr
    dsimp only
    by_cases q : g_rt w h sl e = 72 ∧ il e = 0
    · rw [if_pos q, if_pos rfl, q.1]
    · rw [if_neg q, if_neg (by omega)]
  refine ⟨fun v => if v = 73 then π 72 else π v, fun x hx => ?_⟩
  obtain ⟨e, he, rfl | rfl⟩ := b_ar_mem.1 hx
  · have hE := (g_el_mem hg.1).1 he
    have := (hπ e hE).1
    rw [← e1 e hE, ← e2 e hE] at this
    exact this
  · have hE := (g_el_mem hg.1).1 he
    have := (hπ e hE).2
    rw [← e1 e hE, ← e2 e hE] at this
    exact this
theorem g_ha_end (hg : g_ok w h sl) (hc : g_circ w h sl fo ba) {k : Nat} (hk : (g_fs w h sl).length < k + 1) : b_fl (g_ha w h sl fo ba il) (b_n (g_ha w h sl fo ba il) k (b_0 72)) = false := by
  obtain ⟨π, hπ⟩ := g_ha_pot (il := il) hg hc
  exact b_ends (Fs := 73 :: g_fs w h sl) (g_ha_ne hg) (g_ha_fs hg) (List.mem_cons_of_mem _ ((g_fs_mem hg).2 (Or.inl rfl))) hπ (by rw [List.length_cons]; omega)
theorem g_haK_end (hg : g_ok w h sl) (hc : g_circ w h sl fo ba) {k : Nat} (hk : (g_fs w h sl).length < k + 1) : b_fl ((g_ha w h sl fo ba il).map b_K) (b_n ((g_ha w h sl fo ba il).map b_K) k (b_0 72)) = false := by
  obtain ⟨π, hπ⟩ := g_ha_pot (il := il) hg hc
  refine b_ends (Fs := 73 :: g_fs w h sl) (π := fun v => 65536 * π v) ?_ ?_ (List.mem_cons_of_mem _ ((g_fs_mem hg).2 (Or.inl rfl))) (b_potK hπ) (by rw [List.length_cons]; omega)
  · intro x hx
    obtain ⟨y, hy, rfl⟩ := List.mem_map.1 hx
    exact g_ha_ne hg y hy
  · intro x hx
    obtain ⟨y, hy, rfl⟩ := List.mem_map.1 hx
    exact g_ha_fs hg y hy
/-- one edge of the rim marked, one not: labels on both sides -/
theorem g_ha_lab (hg : g_ok w h sl) {L : b_L} (h0 : L 72 ≠ none) (hs : ∀ x ∈ g_ha w h sl fo ba il, b_sat L x) {e1 e2 : Int} (hE1 : g_E w h sl e1) (ho1 : g_lf w h sl e1 = 72 ∨ g_rt w h sl e1 = 72) (hm1 : il e1 ≠ 0) (hE2 : g_E w h sl e2) (ho2 : g_lf w h sl e2 = 72 ∨ g_rt w h sl e2 = 72) (hm2 : il e2 = 0) : L 73 ≠ none := by
  have hB : ∀ e, g_E w h sl e → (L (g_hl w h sl il e) ≠ none ↔ L (g_hr w h sl il e) ≠ none) := fun e he => b_both hs ((g_el_mem hg.1).2 he)
  have hin : ∀ e, g_E w h sl e → g_lf w h sl e ≠ 72 → g_rt w h sl e ≠ 72 → (L (g_lf w h sl e) ≠ none ↔ L (g_rt w h sl e) ≠ none) := by
    intro e he a b
    have := hB e he
    unfold g_hl g_hr at this
    rw [if_neg (fun q => a q.1), if_neg (fun q => b q.1)] at this
    exact this
  have side : ∀ e, g_E w h sl e → (g_lf w h sl e = 72 ∨ g_rt w h sl e = 72) → ((il e ≠ 0 → (L 72 ≠ none ↔ L 0 ≠ none)) ∧ (il e = 0 → (L 73 ≠ none ↔ L 0 ≠ none))) := by
    intro e he ho
    have hb := hB e he
    have htwo := g_two hg.1 he
    obtain ⟨lF, -, -⟩ := g_lfF hg he
    obtain ⟨rF, -, -⟩ := g_rtF hg he
    unfold g_hl g_hr at hb
    rcases ho with ho | ho
    · have hr : g_rt w h sl e ≠ 72 := fun q => htwo (ho.trans q.symm)
      have hc := g_conn hg (Lab := fun v => L v ≠ none) hin rF hr
      rw [if_neg (c := g_rt w h sl e = 72 ∧ il e = 0) (fun q => hr q.1)] at hb
      constructor
      · intro hi
        rw [if_neg (fun q => hi q.2), ho] at hb
        exact hb.trans hc
      · intro hi
        rw [if_pos ⟨ho, hi⟩] at hb
        exact hb.trans hc
    · have hl : g_lf w h sl e ≠ 72 := fun q => htwo (q.trans ho.symm)
      have hc := g_conn hg (Lab := fun v => L v ≠ none) hin lF hl
      rw [if_neg (c := g_lf w h sl e = 72 ∧ il e = 0) (fun q => hl q.1)] at hb
      constructor
      · intro hi
        rw [if_neg (fun q => hi q.2), ho] at hb
        exact hb.symm.trans hc
      · intro hi
        rw [if_pos ⟨ho, hi⟩] at hb
        exact hb.symm.trans hc
  rw [(side e2 hE2 ho2).2 hm2, ← (side e1 hE1 ho1).1 hm1]
  exact h0
theorem g_sv_of (hg : g_ok w h sl) (hc : g_circ w h sl fo ba) {e1 e2 : Int} (hE1 : g_E w h sl e1) (ho1 : g_lf w h sl e1 = 72 ∨ g_rt w h sl e1 = 72) (hm1 : il e1 ≠ 0) (hE2 : g_E w h sl e2) (ho2 : g_lf w h sl e2 = 72 ∨ g_rt w h sl e2 = 72) (hm2 : il e2 = 0) {k : Nat} (hf : b_fl (g_ha w h sl fo ba il) (b_n (g_ha w h sl fo ba il) k (b_0 72)) = false) : (b_n (g_ha w h sl fo ba il) k (b_0 72)).1 73 = some (g_sv w h sl fo ba il) := by
  have hN := g_fs_len (w := w) (h := h) (sl := sl)
  have h74 := g_ha_end (il := il) hg hc (show (g_fs w h sl).length < 74 + 1 by omega)
  have hl := g_ha_lab hg (b_src_n (A := g_ha w h sl fo ba il) (b_0_s 72) 74) (b_fl_f h74).2 hE1 ho1 hm1 hE2 ho2 hm2
  rw [b_same hf h74]
  unfold g_sv
  obtain ⟨a, ha⟩ := Option.ne_none_iff_exists'.1 hl
  rw [ha]
  rfl
/-- the reference parts it the other way round -/
def g_72 (v : Int) : Int := if v = 72 then 73 else if v = 73 then 72 else v
theorem g_72_i (v : Int) : g_72 (g_72 v) = v := by
  unfold g_72
  by_cases h1 : v = 72
  · rw [if_pos h1, if_neg (by omega), if_pos rfl, h1]
  · rw [if_neg h1]
    by_cases h2 : v = 73
    · rw [if_pos h2, if_pos rfl, h2]
    · rw [if_neg h2, if_neg h1, if_neg h2]
theorem x_ar_h (hg : g_ok w h sl) {hv : Int} (hv1 : hv ≠ 0) : x_ar w h sl fo ba hv il 0 (g_el w h sl) = ((g_ha w h sl fo ba il).map b_K).map (b_ren g_72) := by
  unfold x_ar
  rw [if_pos rfl, b_ar_K, b_ar_ren]
  refine b_ar_cong ?_
  intro e he
  have hE := (g_el_mem hg.1).1 he
  have h1 := g_lfF hg hE
  have h2 := g_rtF hg hE
  have k1 : g_72 73 = 72 := rfl
  have k2 : g_72 72 = 73 := rfl
  have k3 : ∀ v, v ≠ 72 → v ≠ 73 → g_72 v = v := fun v a b => by
    unfold g_72
    rw [if_neg a, if_neg b]
  constructor
  · show g_ln w h sl hv il e = g_72 (g_hl w h sl il e)
    unfold g_ln
    by_cases a : g_lf w h sl e = 72
    · by_cases b : il e = 0
      · have q1 : g_hl w h sl il e = 73 := if_pos ⟨a, b⟩
        rw [q1, if_neg (fun q => q.2.2 b), k1]
        exact a
      · have q1 : g_hl w h sl il e = 72 := (if_neg (fun q => b q.2)).trans a
        rw [q1, if_pos ⟨hv1, a, b⟩, k2]
    · have q1 : g_hl w h sl il e = g_lf w h sl e := if_neg (fun q => a q.1)
      rw [q1, if_neg (fun q => a q.2.1), k3 _ a (by omega)]
  · show g_rn' w h sl hv il e = g_72 (g_hr w h sl il e)
    unfold g_rn'
    by_cases a : g_rt w h sl e = 72
    · by_cases b : il e = 0
      · have q1 : g_hr w h sl il e = 73 := if_pos ⟨a, b⟩
        rw [q1, if_neg (fun q => q.2.2 b), k1]
        exact a
      · have q1 : g_hr w h sl il e = 72 := (if_neg (fun q => b q.2)).trans a
        rw [q1, if_pos ⟨hv1, a, b⟩, k2]
    · have q1 : g_hr w h sl il e = g_rt w h sl e := if_neg (fun q => a q.1)
      rw [q1, if_neg (fun q => a q.2.1), k3 _ a (by omega)]
end H1
