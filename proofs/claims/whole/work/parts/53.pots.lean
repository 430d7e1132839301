/-! POTENTIALS AND DISTANCES, as both come to them -/
def g_pt (w h : Int) (sl fo ba : Int → Int) (v : Int) : Int := ((b_n (g_fw w h sl fo ba) 73 (b_0 72)).1 v).getD 0
/-- costs with hops to a face -/
def g_dk (w h : Int) (sl fo ba : Int → Int) (to v : Int) : Int := ((b_n ((g_bw w h sl fo ba).map b_K) 73 (b_0 to)).1 v).getD 0
def g_dc (w h : Int) (sl fo ba : Int → Int) (to v : Int) : Int := g_dk w h sl fo ba to v / 65536
def g_dh (w h : Int) (sl fo ba : Int → Int) (to v : Int) : Int := g_dk w h sl fo ba to v % 65536
theorem b_same {A : List b_A} {s : b_S} {k j : Nat} (hk : b_fl A (b_n A k s) = false) (hj : b_fl A (b_n A j s) = false) : b_n A k s = b_n A j s := by
  by_cases h : k ≤ j
  · exact (b_n_stop hk j h).symm
  · exact b_n_stop hj k (by omega)
section P1
variable {w h : Int} {sl fo ba : Int → Int}
theorem g_pt_of (hg : g_ok w h sl) {k : Nat} (hf : b_fl (g_fw w h sl fo ba) (b_n (g_fw w h sl fo ba) k (b_0 72)) = false) {v : Int} (hv : g_F w h sl v) : (b_n (g_fw w h sl fo ba) k (b_0 72)).1 v = some (g_pt w h sl fo ba v) := by
  have hc := g_circ_of hg (Or.inl rfl) hf
  have hN := g_fs_len (w := w) (h := h) (sl := sl)
  have h73 := g_fw_end hg hc (Or.inl rfl) (show (g_fs w h sl).length < 73 + 2 by omega)
  have h1 := g_fw_lab hg (Or.inl rfl) (b_src_n (A := g_fw w h sl fo ba) (b_0_s 72) 73) (b_fl_f h73).2 hv
  rw [b_same hf h73]
  unfold g_pt
  obtain ⟨a, ha⟩ := Option.ne_none_iff_exists'.1 h1
  rw [ha]
  rfl
theorem g_pt_pot (hg : g_ok w h sl) (hc : g_circ w h sl fo ba) {e : Int} (he : g_E w h sl e) : g_pt w h sl fo ba (g_rt w h sl e) ≤ g_pt w h sl fo ba (g_lf w h sl e) + fo e ∧ g_pt w h sl fo ba (g_lf w h sl e) ≤ g_pt w h sl fo ba (g_rt w h sl e) + ba e := by
  have hN := g_fs_len (w := w) (h := h) (sl := sl)
  have h73 := g_fw_end hg hc (Or.inl rfl) (show (g_fs w h sl).length < 73 + 2 by omega)
  have hs := (b_fl_f h73).2
  have h0 := b_src_n (A := g_fw w h sl fo ba) (b_0_s 72) 73
  have hp := b_pot hs (fun x hx => by
    obtain ⟨e, he, rfl | rfl⟩ := b_ar_mem.1 hx
    · exact g_fw_lab hg (Or.inl rfl) h0 hs (g_lfF hg ((g_el_mem hg.1).1 he)).1
    · exact g_fw_lab hg (Or.inl rfl) h0 hs (g_rtF hg ((g_el_mem hg.1).1 he)).1)
  exact ⟨hp _ (b_ar_mem.2 ⟨e, (g_el_mem hg.1).2 he, Or.inl rfl⟩), hp _ (b_ar_mem.2 ⟨e, (g_el_mem hg.1).2 he, Or.inr rfl⟩)⟩
/-- the class's word: there is a circulation, or none -/
theorem p_0c {M : jm_Mem} {Q : jm_Q} (hg : g_ok w h sl) (hT : g_tb w h sl M) (hfo : M 4 = fo) (hba : M 5 = ba) (hbo : g_bo fo ba) (hQ1 : g_circ w h sl fo ba → ∀ M', (∀ v, g_F w h sl v → M' 34 v = g_pt w h sl fo ba v) → jm_fr [33, 34, 35] M M' → Q (some (jm_I 1)) M') (hQ0 : ¬ g_circ w h sl fo ba → ∀ s' g M', b_ff (g_fw w h sl fo ba) (b_n (g_fw w h sl fo ba) (g_fs w h sl).length (b_0 72)) = some (s', g) → d_rp s' M' → jm_fr [33, 34, 35] M M' → M' 33 5 = g → Q (some (jm_I 0)) M') : jm_cl 0 [jm_R 33, jm_R 1] M Q := by
  refine p_0 hg hT hfo hba hbo ?_ ?_
  · intro k M' h1 h2 h3
    refine hQ1 (g_circ_of hg (Or.inl rfl) h1) M' ?_ h3
    intro v hv
    have hb := g_Fb hg hv
    rw [(h2 v hb.1 (by omega)).1, g_pt_of hg h1 hv]
    rfl
  · intro s' g M' h1 h2 h3 h4
    refine hQ0 ?_ s' g M' h1 h2 h3 h4
    intro hc
    have := b_ff_fl.2 (g_fw_end hg hc (Or.inl rfl) (show (g_fs w h sl).length < (g_fs w h sl).length + 2 by omega))
    rw [h1] at this
    cases this
theorem x_ar_f (ih : Int → Int) (l : List Int) : x_ar w h sl fo ba 0 ih 0 l = (b_ar (g_lf w h sl) (g_rt w h sl) fo ba l).map b_K := by
  have h1 : g_ln w h sl 0 ih = g_lf w h sl := by
    funext e
    unfold g_ln
    rw [if_neg (by simp)]
  have h2 : g_rn' w h sl 0 ih = g_rt w h sl := by
    funext e
    unfold g_rn'
    rw [if_neg (by simp)]
  unfold x_ar
  rw [if_pos rfl, h1, h2, b_ar_K]
theorem x_ar_b (ih : Int → Int) (l : List Int) : x_ar w h sl fo ba 0 ih 1 l = (b_ar (g_rt w h sl) (g_lf w h sl) fo ba l).map b_K := by
  have h1 : g_ln w h sl 0 ih = g_lf w h sl := by
    funext e
    unfold g_ln
    rw [if_neg (by simp)]
  have h2 : g_rn' w h sl 0 ih = g_rt w h sl := by
    funext e
    unfold g_rn'
    rw [if_neg (by simp)]
  unfold x_ar
  rw [if_neg (by omega), h1, h2, b_ar_K]
theorem g_arl {p q c d : Int → Int} : ((b_ar p q c d (g_el w h sl)).length : Int) ≤ 216 := by
  have := g_el_len (w := w) (h := h) (sl := sl)
  rw [b_ar_len]
  omega
theorem g_kb {p q c d : Int → Int} {k : Nat} (hk : k ≤ 75) : (k : Int) * ((b_ar p q c d (g_el w h sl)).length : Int) + 1 < 65536 := by
  have h1 := g_arl (w := w) (h := h) (sl := sl) (p := p) (q := q) (c := c) (d := d)
  have h2 : (k : Int) * ((b_ar p q c d (g_el w h sl)).length : Int) ≤ 75 * 216 := Int.mul_le_mul (by omega) h1 (by omega) (by omega)
  omega
/-- a label of costs with hops tells the cost -/
theorem b_cost {A : List b_A} {s0 : Int} {k : Nat} (hk : (k : Int) * (A.length : Int) + 1 < 65536) {v a : Int} (h : (b_n A k (b_0 s0)).1 v = some a) : ∃ b, (b_n (A.map b_K) k (b_0 s0)).1 v = some b ∧ b / 65536 = a := by
  have hR := b_R_n (A := A) (s0 := s0) k (by omega)
  cases hb : (b_n (A.map b_K) k (b_0 s0)).1 v with
  | none =>
    have := (hR v).1 hb
    rw [h] at this
    cases this
  | some b =>
    obtain ⟨a', n, h1, h2, h3, h4⟩ := (hR v).2 b hb
    rw [h] at h4
    injection h4 with h4
    exact ⟨b, rfl, by omega⟩
/-- the reference's word -/
theorem p_159 {M : jm_Mem} {Q : jm_Q} (hg : g_ok w h sl) (hbo : g_bo fo ba) (hX : r_X w h sl M) (hfo : M 69 = fo) (hba : M 70 = ba) (hQ1 : g_circ w h sl fo ba → ∀ M', (∀ v, g_F w h sl v → M' 74 v = g_pt w h sl fo ba v) → jm_fx [74, 75] [24] M M' → M' 67 24 = 0 → Q (some (jm_I 1)) M') (hQ0 : ¬ g_circ w h sl fo ba → ∀ M', jm_fx [74, 75] [24] M M' → M' 67 24 = 0 → Q (some (jm_I 0)) M') : jm_cl 159 [jm_R 67] M Q := by
  have hN := g_fs_len (w := w) (h := h) (sl := sl)
  refine sc_159 ⟨by omega, by omega, ?_⟩
  have f0 : jm_fx [74, 75] [24] M (jm_st M 67 24 0) := jm_fx_sx (by decide)
  have z0 : (jm_st M 67 24 0) 67 24 = 0 := by rw [jm_st_e, if_pos rfl, jm_up_s]
  have fin : ∀ M', jm_fr [74, 75] (jm_st M 67 24 0) M' → jm_fx [74, 75] [24] M M' ∧ M' 67 24 = 0 := by
    intro M' hf
    refine ⟨jm_fx_tr f0 ⟨fun c a _ => hf c a, fun i _ => by rw [hf 67 (by decide)]⟩, ?_⟩
    rw [hf 67 (by decide)]
    exact z0
  refine p_158 (hv := 0) (ih := M 76) hg hbo (r_X_fx f0 (by decide) (by decide) (by decide) hX) (by rw [f0.1 69 (by decide) (by decide)]; exact hfo) (by rw [f0.1 70 (by decide) (by decide)]; exact hba) z0 (f0.1 76 (by decide) (by decide)) (by omega) (by omega) ?_ ?_
  · intro k M' hk h1 h2 h3
    rw [x_ar_f] at h1 h2
    have h1' := b_flK (g_kb hk) h1
    obtain ⟨q1, q2⟩ := fin M' h3
    refine ⟨1, rfl, by omega, by omega, hQ1 (g_circ_of hg (Or.inl rfl) h1') M' ?_ q1 q2⟩
    intro v hv
    have hb := g_Fb hg hv
    obtain ⟨b, hb1, hb2⟩ := b_cost (g_kb hk) (g_pt_of hg h1' hv)
    rw [(h2 v hb.1 (by omega)).1, hb1]
    exact hb2
  · intro M' h1 h3
    rw [x_ar_f] at h1
    obtain ⟨q1, q2⟩ := fin M' h3
    refine ⟨0, rfl, by omega, by omega, hQ0 ?_ M' q1 q2⟩
    intro hc
    rw [g_fwK_end hg hc (Or.inl rfl) (show (g_fs w h sl).length < 74 + 2 by omega)] at h1
    cases h1
end P1
